theorem dX12_manyOf_0 : decode cX12_manyOf 0 = .ok (.iload_n 2, 1) := by decide +kernel
theorem dX12_manyOf_1 : decode cX12_manyOf 1 = .ok (.ifCond .ne 12, 3) := by decide +kernel
theorem dX12_manyOf_4 : decode cX12_manyOf 4 = .ok (.aload_n 0, 1) := by decide +kernel
theorem dX12_manyOf_5 : decode cX12_manyOf 5 = .ok (.getfield 54, 3) := by decide +kernel
theorem dX12_manyOf_8 : decode cX12_manyOf 8 = .ok (.iload_n 1, 1) := by decide +kernel
theorem dX12_manyOf_9 : decode cX12_manyOf 9 = .ok (.iaload, 1) := by decide +kernel
theorem dX12_manyOf_10 : decode cX12_manyOf 10 = .ok (.goto 9, 3) := by decide +kernel
theorem dX12_manyOf_13 : decode cX12_manyOf 13 = .ok (.aload_n 0, 1) := by decide +kernel
theorem dX12_manyOf_14 : decode cX12_manyOf 14 = .ok (.getfield 66, 3) := by decide +kernel
theorem dX12_manyOf_17 : decode cX12_manyOf 17 = .ok (.iload_n 1, 1) := by decide +kernel
theorem dX12_manyOf_18 : decode cX12_manyOf 18 = .ok (.iaload, 1) := by decide +kernel
theorem dX12_manyOf_19 : decode cX12_manyOf 19 = .ok (.ireturn, 1) := by decide +kernel
theorem dX12_nameOf_0 : decode cX12_nameOf 0 = .ok (.iload_n 2, 1) := by decide +kernel
theorem dX12_nameOf_1 : decode cX12_nameOf 1 = .ok (.ifCond .ne 17, 3) := by decide +kernel
theorem dX12_nameOf_4 : decode cX12_nameOf 4 = .ok (.aload_n 0, 1) := by decide +kernel
theorem dX12_nameOf_5 : decode cX12_nameOf 5 = .ok (.getfield 105, 3) := by decide +kernel
theorem dX12_nameOf_8 : decode cX12_nameOf 8 = .ok (.bipush 7, 2) := by decide +kernel
theorem dX12_nameOf_10 : decode cX12_nameOf 10 = .ok (.iload_n 1, 1) := by decide +kernel
theorem dX12_nameOf_11 : decode cX12_nameOf 11 = .ok (.imul, 1) := by decide +kernel
theorem dX12_nameOf_12 : decode cX12_nameOf 12 = .ok (.iload_n 3, 1) := by decide +kernel
theorem dX12_nameOf_13 : decode cX12_nameOf 13 = .ok (.iadd, 1) := by decide +kernel
theorem dX12_nameOf_14 : decode cX12_nameOf 14 = .ok (.laload, 1) := by decide +kernel
theorem dX12_nameOf_15 : decode cX12_nameOf 15 = .ok (.goto 14, 3) := by decide +kernel
theorem dX12_nameOf_18 : decode cX12_nameOf 18 = .ok (.aload_n 0, 1) := by decide +kernel
theorem dX12_nameOf_19 : decode cX12_nameOf 19 = .ok (.getfield 109, 3) := by decide +kernel
theorem dX12_nameOf_22 : decode cX12_nameOf 22 = .ok (.bipush 6, 2) := by decide +kernel
theorem dX12_nameOf_24 : decode cX12_nameOf 24 = .ok (.iload_n 1, 1) := by decide +kernel
theorem dX12_nameOf_25 : decode cX12_nameOf 25 = .ok (.imul, 1) := by decide +kernel
theorem dX12_nameOf_26 : decode cX12_nameOf 26 = .ok (.iload_n 3, 1) := by decide +kernel
theorem dX12_nameOf_27 : decode cX12_nameOf 27 = .ok (.iadd, 1) := by decide +kernel
theorem dX12_nameOf_28 : decode cX12_nameOf 28 = .ok (.laload, 1) := by decide +kernel
theorem dX12_nameOf_29 : decode cX12_nameOf 29 = .ok (.lreturn, 1) := by decide +kernel
theorem dX12_named_0 : decode cX12_named 0 = .ok (.iconst 0, 1) := by decide +kernel
theorem dX12_named_1 : decode cX12_named 1 = .ok (.istore 4, 2) := by decide +kernel
theorem dX12_named_3 : decode cX12_named 3 = .ok (.iload 4, 2) := by decide +kernel
theorem dX12_named_5 : decode cX12_named 5 = .ok (.aload_n 0, 1) := by decide +kernel
theorem dX12_named_6 : decode cX12_named 6 = .ok (.aload_n 0, 1) := by decide +kernel
theorem dX12_named_7 : decode cX12_named 7 = .ok (.getfield 115, 3) := by decide +kernel
theorem dX12_named_10 : decode cX12_named 10 = .ok (.iload_n 1, 1) := by decide +kernel
theorem dX12_named_11 : decode cX12_named 11 = .ok (.invokevirtual 292, 3) := by decide +kernel
theorem dX12_named_14 : decode cX12_named 14 = .ok (.if_icmp .ge 28, 3) := by decide +kernel
theorem dX12_named_17 : decode cX12_named 17 = .ok (.aload_n 0, 1) := by decide +kernel
theorem dX12_named_18 : decode cX12_named 18 = .ok (.aload_n 0, 1) := by decide +kernel
theorem dX12_named_19 : decode cX12_named 19 = .ok (.getfield 115, 3) := by decide +kernel
theorem dX12_named_22 : decode cX12_named 22 = .ok (.iload_n 1, 1) := by decide +kernel
theorem dX12_named_23 : decode cX12_named 23 = .ok (.iload 4, 2) := by decide +kernel
theorem dX12_named_25 : decode cX12_named 25 = .ok (.invokevirtual 296, 3) := by decide +kernel
theorem dX12_named_28 : decode cX12_named 28 = .ok (.lload_n 2, 1) := by decide +kernel
theorem dX12_named_29 : decode cX12_named 29 = .ok (.lcmp, 1) := by decide +kernel
theorem dX12_named_30 : decode cX12_named 30 = .ok (.ifCond .ne 6, 3) := by decide +kernel
theorem dX12_named_33 : decode cX12_named 33 = .ok (.iload 4, 2) := by decide +kernel
theorem dX12_named_35 : decode cX12_named 35 = .ok (.ireturn, 1) := by decide +kernel
theorem dX12_named_36 : decode cX12_named 36 = .ok (.iinc 4 1, 3) := by decide +kernel
theorem dX12_named_39 : decode cX12_named 39 = .ok (.goto (-36), 3) := by decide +kernel
theorem dX12_named_42 : decode cX12_named 42 = .ok (.iconst (-1), 1) := by decide +kernel
theorem dX12_named_43 : decode cX12_named 43 = .ok (.ireturn, 1) := by decide +kernel
theorem dX12_number_0 : decode cX12_number 0 = .ok (.aload_n 0, 1) := by decide +kernel
theorem dX12_number_1 : decode cX12_number 1 = .ok (.invokevirtual 235, 3) := by decide +kernel
theorem dX12_number_4 : decode cX12_number 4 = .ok (.aload_n 0, 1) := by decide +kernel
theorem dX12_number_5 : decode cX12_number 5 = .ok (.getfield 36, 3) := by decide +kernel
theorem dX12_number_8 : decode cX12_number 8 = .ok (.ifCond .le 5, 3) := by decide +kernel
theorem dX12_number_11 : decode cX12_number 11 = .ok (.iconst 0, 1) := by decide +kernel
theorem dX12_number_12 : decode cX12_number 12 = .ok (.ireturn, 1) := by decide +kernel
theorem dX12_number_13 : decode cX12_number 13 = .ok (.aload_n 0, 1) := by decide +kernel
theorem dX12_number_14 : decode cX12_number 14 = .ok (.getfield 20, 3) := by decide +kernel
theorem dX12_number_17 : decode cX12_number 17 = .ok (.iconst 2, 1) := by decide +kernel
theorem dX12_number_18 : decode cX12_number 18 = .ok (.if_icmp .eq 12, 3) := by decide +kernel
theorem dX12_number_21 : decode cX12_number 21 = .ok (.aload_n 0, 1) := by decide +kernel
theorem dX12_number_22 : decode cX12_number 22 = .ok (.iconst 1, 1) := by decide +kernel
theorem dX12_number_23 : decode cX12_number 23 = .ok (.aload_n 0, 1) := by decide +kernel
theorem dX12_number_24 : decode cX12_number 24 = .ok (.getfield 23, 3) := by decide +kernel
theorem dX12_number_27 : decode cX12_number 27 = .ok (.invokevirtual 224, 3) := by decide +kernel
theorem dX12_number_30 : decode cX12_number 30 = .ok (.aload_n 0, 1) := by decide +kernel
theorem dX12_number_31 : decode cX12_number 31 = .ok (.getfield 36, 3) := by decide +kernel
theorem dX12_number_34 : decode cX12_number 34 = .ok (.ifCond .ne 24, 3) := by decide +kernel
theorem dX12_number_37 : decode cX12_number 37 = .ok (.aload_n 0, 1) := by decide +kernel
theorem dX12_number_38 : decode cX12_number 38 = .ok (.getfield 29, 3) := by decide +kernel
theorem dX12_number_41 : decode cX12_number 41 = .ok (.iload_n 1, 1) := by decide +kernel
theorem dX12_number_42 : decode cX12_number 42 = .ok (.iload_n 2, 1) := by decide +kernel
theorem dX12_number_43 : decode cX12_number 43 = .ok (.invokestatic 300, 3) := by decide +kernel
theorem dX12_number_46 : decode cX12_number 46 = .ok (.ifCond .ne 12, 3) := by decide +kernel
theorem dX12_number_49 : decode cX12_number 49 = .ok (.aload_n 0, 1) := by decide +kernel
theorem dX12_number_50 : decode cX12_number 50 = .ok (.iconst 4, 1) := by decide +kernel
theorem dX12_number_51 : decode cX12_number 51 = .ok (.aload_n 0, 1) := by decide +kernel
theorem dX12_number_52 : decode cX12_number 52 = .ok (.getfield 23, 3) := by decide +kernel
theorem dX12_number_55 : decode cX12_number 55 = .ok (.invokevirtual 224, 3) := by decide +kernel
theorem dX12_number_58 : decode cX12_number 58 = .ok (.aload_n 0, 1) := by decide +kernel
theorem dX12_number_59 : decode cX12_number 59 = .ok (.getfield 29, 3) := by decide +kernel
theorem dX12_number_62 : decode cX12_number 62 = .ok (.istore_n 3, 1) := by decide +kernel
theorem dX12_number_63 : decode cX12_number 63 = .ok (.aload_n 0, 1) := by decide +kernel
theorem dX12_number_64 : decode cX12_number 64 = .ok (.getfield 36, 3) := by decide +kernel
theorem dX12_number_67 : decode cX12_number 67 = .ok (.ifCond .ne 7, 3) := by decide +kernel
theorem dX12_number_70 : decode cX12_number 70 = .ok (.aload_n 0, 1) := by decide +kernel
theorem dX12_number_71 : decode cX12_number 71 = .ok (.invokevirtual 241, 3) := by decide +kernel
theorem dX12_number_74 : decode cX12_number 74 = .ok (.iload_n 3, 1) := by decide +kernel
theorem dX12_number_75 : decode cX12_number 75 = .ok (.ireturn, 1) := by decide +kernel
theorem dX12_add_0 : decode cX12_add 0 = .ok (.aload_n 0, 1) := by decide +kernel
theorem dX12_add_1 : decode cX12_add 1 = .ok (.getfield 99, 3) := by decide +kernel
theorem dX12_add_4 : decode cX12_add 4 = .ok (.sipush 1600, 3) := by decide +kernel
theorem dX12_add_7 : decode cX12_add 7 = .ok (.aload_n 0, 1) := by decide +kernel
theorem dX12_add_8 : decode cX12_add 8 = .ok (.getfield 115, 3) := by decide +kernel
theorem dX12_add_11 : decode cX12_add 11 = .ok (.imul, 1) := by decide +kernel
theorem dX12_add_12 : decode cX12_add 12 = .ok (.aload_n 0, 1) := by decide +kernel
theorem dX12_add_13 : decode cX12_add 13 = .ok (.getfield 112, 3) := by decide +kernel
theorem dX12_add_16 : decode cX12_add 16 = .ok (.iadd, 1) := by decide +kernel
theorem dX12_add_17 : decode cX12_add 17 = .ok (.iload_n 1, 1) := by decide +kernel
theorem dX12_add_18 : decode cX12_add 18 = .ok (.iastore, 1) := by decide +kernel
theorem dX12_add_19 : decode cX12_add 19 = .ok (.aload_n 0, 1) := by decide +kernel
theorem dX12_add_20 : decode cX12_add 20 = .ok (.getfield 102, 3) := by decide +kernel
theorem dX12_add_23 : decode cX12_add 23 = .ok (.sipush 1600, 3) := by decide +kernel
theorem dX12_add_26 : decode cX12_add 26 = .ok (.aload_n 0, 1) := by decide +kernel
theorem dX12_add_27 : decode cX12_add 27 = .ok (.getfield 115, 3) := by decide +kernel
theorem dX12_add_30 : decode cX12_add 30 = .ok (.imul, 1) := by decide +kernel
theorem dX12_add_31 : decode cX12_add 31 = .ok (.aload_n 0, 1) := by decide +kernel
theorem dX12_add_32 : decode cX12_add 32 = .ok (.getfield 112, 3) := by decide +kernel
theorem dX12_add_35 : decode cX12_add 35 = .ok (.iadd, 1) := by decide +kernel
theorem dX12_add_36 : decode cX12_add 36 = .ok (.iload_n 2, 1) := by decide +kernel
theorem dX12_add_37 : decode cX12_add 37 = .ok (.iastore, 1) := by decide +kernel
theorem dX12_add_38 : decode cX12_add 38 = .ok (.aload_n 0, 1) := by decide +kernel
theorem dX12_add_39 : decode cX12_add 39 = .ok (.dup, 1) := by decide +kernel
theorem dX12_add_40 : decode cX12_add 40 = .ok (.getfield 112, 3) := by decide +kernel
theorem dX12_add_43 : decode cX12_add 43 = .ok (.iconst 1, 1) := by decide +kernel
theorem dX12_add_44 : decode cX12_add 44 = .ok (.iadd, 1) := by decide +kernel
theorem dX12_add_45 : decode cX12_add 45 = .ok (.putfield 112, 3) := by decide +kernel
theorem dX12_add_48 : decode cX12_add 48 = .ok (.return_, 1) := by decide +kernel
theorem dX12_rank_0 : decode cX12_rank 0 = .ok (.iload_n 0, 1) := by decide +kernel
theorem dX12_rank_1 : decode cX12_rank 1 = .ok (.bipush 42, 2) := by decide +kernel
theorem dX12_rank_3 : decode cX12_rank 3 = .ok (.if_icmp .ne 7, 3) := by decide +kernel
theorem dX12_rank_6 : decode cX12_rank 6 = .ok (.iconst 1, 1) := by decide +kernel
theorem dX12_rank_7 : decode cX12_rank 7 = .ok (.goto 63, 3) := by decide +kernel
theorem dX12_rank_10 : decode cX12_rank 10 = .ok (.iload_n 0, 1) := by decide +kernel
theorem dX12_rank_11 : decode cX12_rank 11 = .ok (.bipush 41, 2) := by decide +kernel
theorem dX12_rank_13 : decode cX12_rank 13 = .ok (.if_icmp .ne 7, 3) := by decide +kernel
theorem dX12_rank_16 : decode cX12_rank 16 = .ok (.iconst 2, 1) := by decide +kernel
theorem dX12_rank_17 : decode cX12_rank 17 = .ok (.goto 53, 3) := by decide +kernel
theorem dX12_rank_20 : decode cX12_rank 20 = .ok (.iload_n 0, 1) := by decide +kernel
theorem dX12_rank_21 : decode cX12_rank 21 = .ok (.bipush 43, 2) := by decide +kernel
theorem dX12_rank_23 : decode cX12_rank 23 = .ok (.if_icmp .ne 7, 3) := by decide +kernel
theorem dX12_rank_26 : decode cX12_rank 26 = .ok (.iconst 3, 1) := by decide +kernel
theorem dX12_rank_27 : decode cX12_rank 27 = .ok (.goto 43, 3) := by decide +kernel
theorem dX12_rank_30 : decode cX12_rank 30 = .ok (.iload_n 0, 1) := by decide +kernel
theorem dX12_rank_31 : decode cX12_rank 31 = .ok (.bipush 38, 2) := by decide +kernel
theorem dX12_rank_33 : decode cX12_rank 33 = .ok (.if_icmp .eq 15, 3) := by decide +kernel
theorem dX12_rank_36 : decode cX12_rank 36 = .ok (.iload_n 0, 1) := by decide +kernel
theorem dX12_rank_37 : decode cX12_rank 37 = .ok (.bipush 39, 2) := by decide +kernel
theorem dX12_rank_39 : decode cX12_rank 39 = .ok (.if_icmp .eq 9, 3) := by decide +kernel
theorem dX12_rank_42 : decode cX12_rank 42 = .ok (.iload_n 0, 1) := by decide +kernel
theorem dX12_rank_43 : decode cX12_rank 43 = .ok (.bipush 40, 2) := by decide +kernel
theorem dX12_rank_45 : decode cX12_rank 45 = .ok (.if_icmp .ne 7, 3) := by decide +kernel
theorem dX12_rank_48 : decode cX12_rank 48 = .ok (.iconst 4, 1) := by decide +kernel
theorem dX12_rank_49 : decode cX12_rank 49 = .ok (.goto 21, 3) := by decide +kernel
theorem dX12_rank_52 : decode cX12_rank 52 = .ok (.iload_n 0, 1) := by decide +kernel
theorem dX12_rank_53 : decode cX12_rank 53 = .ok (.bipush 31, 2) := by decide +kernel
theorem dX12_rank_55 : decode cX12_rank 55 = .ok (.if_icmp .eq 9, 3) := by decide +kernel
theorem dX12_rank_58 : decode cX12_rank 58 = .ok (.iload_n 0, 1) := by decide +kernel
theorem dX12_rank_59 : decode cX12_rank 59 = .ok (.bipush 32, 2) := by decide +kernel
theorem dX12_rank_61 : decode cX12_rank 61 = .ok (.if_icmp .ne 7, 3) := by decide +kernel
theorem dX12_rank_64 : decode cX12_rank 64 = .ok (.iconst 5, 1) := by decide +kernel
theorem dX12_rank_65 : decode cX12_rank 65 = .ok (.goto 5, 3) := by decide +kernel
theorem dX12_rank_68 : decode cX12_rank 68 = .ok (.bipush 6, 2) := by decide +kernel
theorem dX12_rank_70 : decode cX12_rank 70 = .ok (.ireturn, 1) := by decide +kernel
theorem dX12_joins_0 : decode cX12_joins 0 = .ok (.aload_n 0, 1) := by decide +kernel
theorem dX12_joins_1 : decode cX12_joins 1 = .ok (.getfield 147, 3) := by decide +kernel
theorem dX12_joins_4 : decode cX12_joins 4 = .ok (.aload_n 0, 1) := by decide +kernel
theorem dX12_joins_5 : decode cX12_joins 5 = .ok (.getfield 135, 3) := by decide +kernel
theorem dX12_joins_8 : decode cX12_joins 8 = .ok (.aload_n 0, 1) := by decide +kernel
theorem dX12_joins_9 : decode cX12_joins 9 = .ok (.getfield 138, 3) := by decide +kernel
theorem dX12_joins_12 : decode cX12_joins 12 = .ok (.iconst 1, 1) := by decide +kernel
theorem dX12_joins_13 : decode cX12_joins 13 = .ok (.isub, 1) := by decide +kernel
theorem dX12_joins_14 : decode cX12_joins 14 = .ok (.iaload, 1) := by decide +kernel
theorem dX12_joins_15 : decode cX12_joins 15 = .ok (.if_icmp .le 72, 3) := by decide +kernel
theorem dX12_joins_18 : decode cX12_joins 18 = .ok (.aload_n 0, 1) := by decide +kernel
theorem dX12_joins_19 : decode cX12_joins 19 = .ok (.getfield 144, 3) := by decide +kernel
theorem dX12_joins_22 : decode cX12_joins 22 = .ok (.aload_n 0, 1) := by decide +kernel
theorem dX12_joins_23 : decode cX12_joins 23 = .ok (.getfield 147, 3) := by decide +kernel
theorem dX12_joins_26 : decode cX12_joins 26 = .ok (.iconst 1, 1) := by decide +kernel
theorem dX12_joins_27 : decode cX12_joins 27 = .ok (.isub, 1) := by decide +kernel
theorem dX12_joins_28 : decode cX12_joins 28 = .ok (.iaload, 1) := by decide +kernel
theorem dX12_joins_29 : decode cX12_joins 29 = .ok (.invokestatic 304, 3) := by decide +kernel
theorem dX12_joins_32 : decode cX12_joins 32 = .ok (.iload_n 1, 1) := by decide +kernel
theorem dX12_joins_33 : decode cX12_joins 33 = .ok (.if_icmp .lt 54, 3) := by decide +kernel
theorem dX12_joins_36 : decode cX12_joins 36 = .ok (.aload_n 0, 1) := by decide +kernel
theorem dX12_joins_37 : decode cX12_joins 37 = .ok (.dup, 1) := by decide +kernel
theorem dX12_joins_38 : decode cX12_joins 38 = .ok (.getfield 147, 3) := by decide +kernel
theorem dX12_joins_41 : decode cX12_joins 41 = .ok (.iconst 1, 1) := by decide +kernel
theorem dX12_joins_42 : decode cX12_joins 42 = .ok (.isub, 1) := by decide +kernel
theorem dX12_joins_43 : decode cX12_joins 43 = .ok (.putfield 147, 3) := by decide +kernel
theorem dX12_joins_46 : decode cX12_joins 46 = .ok (.aload_n 0, 1) := by decide +kernel
theorem dX12_joins_47 : decode cX12_joins 47 = .ok (.aload_n 0, 1) := by decide +kernel
theorem dX12_joins_48 : decode cX12_joins 48 = .ok (.getfield 144, 3) := by decide +kernel
theorem dX12_joins_51 : decode cX12_joins 51 = .ok (.aload_n 0, 1) := by decide +kernel
theorem dX12_joins_52 : decode cX12_joins 52 = .ok (.getfield 147, 3) := by decide +kernel
theorem dX12_joins_55 : decode cX12_joins 55 = .ok (.iaload, 1) := by decide +kernel
theorem dX12_joins_56 : decode cX12_joins 56 = .ok (.iconst 0, 1) := by decide +kernel
theorem dX12_joins_57 : decode cX12_joins 57 = .ok (.invokevirtual 307, 3) := by decide +kernel
theorem dX12_joins_60 : decode cX12_joins 60 = .ok (.aload_n 0, 1) := by decide +kernel
theorem dX12_joins_61 : decode cX12_joins 61 = .ok (.getfield 144, 3) := by decide +kernel
theorem dX12_joins_64 : decode cX12_joins 64 = .ok (.aload_n 0, 1) := by decide +kernel
theorem dX12_joins_65 : decode cX12_joins 65 = .ok (.getfield 147, 3) := by decide +kernel
theorem dX12_joins_68 : decode cX12_joins 68 = .ok (.iaload, 1) := by decide +kernel
theorem dX12_joins_69 : decode cX12_joins 69 = .ok (.bipush 43, 2) := by decide +kernel
theorem dX12_joins_71 : decode cX12_joins 71 = .ok (.if_icmp .ne (-71), 3) := by decide +kernel
theorem dX12_joins_74 : decode cX12_joins 74 = .ok (.aload_n 0, 1) := by decide +kernel
theorem dX12_joins_75 : decode cX12_joins 75 = .ok (.dup, 1) := by decide +kernel
theorem dX12_joins_76 : decode cX12_joins 76 = .ok (.getfield 141, 3) := by decide +kernel
theorem dX12_joins_79 : decode cX12_joins 79 = .ok (.iconst 1, 1) := by decide +kernel
theorem dX12_joins_80 : decode cX12_joins 80 = .ok (.isub, 1) := by decide +kernel
theorem dX12_joins_81 : decode cX12_joins 81 = .ok (.putfield 141, 3) := by decide +kernel
theorem dX12_joins_84 : decode cX12_joins 84 = .ok (.goto (-84), 3) := by decide +kernel
theorem dX12_joins_87 : decode cX12_joins 87 = .ok (.return_, 1) := by decide +kernel
theorem dX12_holdsBack_0 : decode cX12_holdsBack 0 = .ok (.aload_n 0, 1) := by decide +kernel
theorem dX12_holdsBack_1 : decode cX12_holdsBack 1 = .ok (.getfield 144, 3) := by decide +kernel
theorem dX12_holdsBack_4 : decode cX12_holdsBack 4 = .ok (.aload_n 0, 1) := by decide +kernel
theorem dX12_holdsBack_5 : decode cX12_holdsBack 5 = .ok (.getfield 147, 3) := by decide +kernel
theorem dX12_holdsBack_8 : decode cX12_holdsBack 8 = .ok (.iload_n 1, 1) := by decide +kernel
theorem dX12_holdsBack_9 : decode cX12_holdsBack 9 = .ok (.iastore, 1) := by decide +kernel
theorem dX12_holdsBack_10 : decode cX12_holdsBack 10 = .ok (.aload_n 0, 1) := by decide +kernel
theorem dX12_holdsBack_11 : decode cX12_holdsBack 11 = .ok (.dup, 1) := by decide +kernel
theorem dX12_holdsBack_12 : decode cX12_holdsBack 12 = .ok (.getfield 147, 3) := by decide +kernel
theorem dX12_holdsBack_15 : decode cX12_holdsBack 15 = .ok (.iconst 1, 1) := by decide +kernel
theorem dX12_holdsBack_16 : decode cX12_holdsBack 16 = .ok (.iadd, 1) := by decide +kernel
theorem dX12_holdsBack_17 : decode cX12_holdsBack 17 = .ok (.putfield 147, 3) := by decide +kernel
theorem dX12_holdsBack_20 : decode cX12_holdsBack 20 = .ok (.return_, 1) := by decide +kernel
theorem dX12_pushes_0 : decode cX12_pushes 0 = .ok (.aload_n 0, 1) := by decide +kernel
theorem dX12_pushes_1 : decode cX12_pushes 1 = .ok (.getfield 122, 3) := by decide +kernel
theorem dX12_pushes_4 : decode cX12_pushes 4 = .ok (.aload_n 0, 1) := by decide +kernel
theorem dX12_pushes_5 : decode cX12_pushes 5 = .ok (.getfield 138, 3) := by decide +kernel
theorem dX12_pushes_8 : decode cX12_pushes 8 = .ok (.iload_n 1, 1) := by decide +kernel
theorem dX12_pushes_9 : decode cX12_pushes 9 = .ok (.iastore, 1) := by decide +kernel
theorem dX12_pushes_10 : decode cX12_pushes 10 = .ok (.aload_n 0, 1) := by decide +kernel
theorem dX12_pushes_11 : decode cX12_pushes 11 = .ok (.getfield 125, 3) := by decide +kernel
theorem dX12_pushes_14 : decode cX12_pushes 14 = .ok (.aload_n 0, 1) := by decide +kernel
theorem dX12_pushes_15 : decode cX12_pushes 15 = .ok (.getfield 138, 3) := by decide +kernel
theorem dX12_pushes_18 : decode cX12_pushes 18 = .ok (.iconst 0, 1) := by decide +kernel
theorem dX12_pushes_19 : decode cX12_pushes 19 = .ok (.iastore, 1) := by decide +kernel
theorem dX12_pushes_20 : decode cX12_pushes 20 = .ok (.aload_n 0, 1) := by decide +kernel
theorem dX12_pushes_21 : decode cX12_pushes 21 = .ok (.getfield 128, 3) := by decide +kernel
theorem dX12_pushes_24 : decode cX12_pushes 24 = .ok (.aload_n 0, 1) := by decide +kernel
theorem dX12_pushes_25 : decode cX12_pushes 25 = .ok (.getfield 138, 3) := by decide +kernel
theorem dX12_pushes_28 : decode cX12_pushes 28 = .ok (.iconst 1, 1) := by decide +kernel
theorem dX12_pushes_29 : decode cX12_pushes 29 = .ok (.bastore, 1) := by decide +kernel
theorem dX12_pushes_30 : decode cX12_pushes 30 = .ok (.aload_n 0, 1) := by decide +kernel
theorem dX12_pushes_31 : decode cX12_pushes 31 = .ok (.getfield 135, 3) := by decide +kernel
theorem dX12_pushes_34 : decode cX12_pushes 34 = .ok (.aload_n 0, 1) := by decide +kernel
theorem dX12_pushes_35 : decode cX12_pushes 35 = .ok (.getfield 138, 3) := by decide +kernel
theorem dX12_pushes_38 : decode cX12_pushes 38 = .ok (.aload_n 0, 1) := by decide +kernel
theorem dX12_pushes_39 : decode cX12_pushes 39 = .ok (.getfield 147, 3) := by decide +kernel
theorem dX12_pushes_42 : decode cX12_pushes 42 = .ok (.iastore, 1) := by decide +kernel
theorem dX12_pushes_43 : decode cX12_pushes 43 = .ok (.aload_n 0, 1) := by decide +kernel
theorem dX12_pushes_44 : decode cX12_pushes 44 = .ok (.dup, 1) := by decide +kernel
theorem dX12_pushes_45 : decode cX12_pushes 45 = .ok (.getfield 138, 3) := by decide +kernel
theorem dX12_pushes_48 : decode cX12_pushes 48 = .ok (.iconst 1, 1) := by decide +kernel
theorem dX12_pushes_49 : decode cX12_pushes 49 = .ok (.iadd, 1) := by decide +kernel
theorem dX12_pushes_50 : decode cX12_pushes 50 = .ok (.putfield 138, 3) := by decide +kernel
theorem dX12_pushes_53 : decode cX12_pushes 53 = .ok (.return_, 1) := by decide +kernel
theorem dX12_opens_0 : decode cX12_opens 0 = .ok (.aload_n 0, 1) := by decide +kernel
theorem dX12_opens_1 : decode cX12_opens 1 = .ok (.getfield 141, 3) := by decide +kernel
theorem dX12_opens_4 : decode cX12_opens 4 = .ok (.bipush 7, 2) := by decide +kernel
theorem dX12_opens_6 : decode cX12_opens 6 = .ok (.if_icmp .ne 12, 3) := by decide +kernel
theorem dX12_opens_9 : decode cX12_opens 9 = .ok (.aload_n 0, 1) := by decide +kernel
theorem dX12_opens_10 : decode cX12_opens 10 = .ok (.iconst 5, 1) := by decide +kernel
theorem dX12_opens_11 : decode cX12_opens 11 = .ok (.aload_n 0, 1) := by decide +kernel
theorem dX12_opens_12 : decode cX12_opens 12 = .ok (.getfield 23, 3) := by decide +kernel
theorem dX12_opens_15 : decode cX12_opens 15 = .ok (.invokevirtual 224, 3) := by decide +kernel
theorem dX12_opens_18 : decode cX12_opens 18 = .ok (.aload_n 0, 1) := by decide +kernel
theorem dX12_opens_19 : decode cX12_opens 19 = .ok (.getfield 36, 3) := by decide +kernel
theorem dX12_opens_22 : decode cX12_opens 22 = .ok (.ifCond .le 4, 3) := by decide +kernel
theorem dX12_opens_25 : decode cX12_opens 25 = .ok (.return_, 1) := by decide +kernel
theorem dX12_opens_26 : decode cX12_opens 26 = .ok (.aload_n 0, 1) := by decide +kernel
theorem dX12_opens_27 : decode cX12_opens 27 = .ok (.dup, 1) := by decide +kernel
theorem dX12_opens_28 : decode cX12_opens 28 = .ok (.getfield 141, 3) := by decide +kernel
theorem dX12_opens_31 : decode cX12_opens 31 = .ok (.iconst 1, 1) := by decide +kernel
theorem dX12_opens_32 : decode cX12_opens 32 = .ok (.iadd, 1) := by decide +kernel
theorem dX12_opens_33 : decode cX12_opens 33 = .ok (.putfield 141, 3) := by decide +kernel
theorem dX12_opens_36 : decode cX12_opens 36 = .ok (.aload_n 0, 1) := by decide +kernel
theorem dX12_opens_37 : decode cX12_opens 37 = .ok (.invokevirtual 241, 3) := by decide +kernel
theorem dX12_opens_40 : decode cX12_opens 40 = .ok (.aload_n 0, 1) := by decide +kernel
theorem dX12_opens_41 : decode cX12_opens 41 = .ok (.iload_n 1, 1) := by decide +kernel
theorem dX12_opens_42 : decode cX12_opens 42 = .ok (.invokevirtual 310, 3) := by decide +kernel
theorem dX12_opens_45 : decode cX12_opens 45 = .ok (.return_, 1) := by decide +kernel
theorem dX12_isTest_0 : decode cX12_isTest 0 = .ok (.iload_n 0, 1) := by decide +kernel
theorem dX12_isTest_1 : decode cX12_isTest 1 = .ok (.iconst 1, 1) := by decide +kernel
theorem dX12_isTest_2 : decode cX12_isTest 2 = .ok (.if_icmp .eq 14, 3) := by decide +kernel
theorem dX12_isTest_5 : decode cX12_isTest 5 = .ok (.iload_n 0, 1) := by decide +kernel
theorem dX12_isTest_6 : decode cX12_isTest 6 = .ok (.iconst 5, 1) := by decide +kernel
theorem dX12_isTest_7 : decode cX12_isTest 7 = .ok (.if_icmp .eq 9, 3) := by decide +kernel
theorem dX12_isTest_10 : decode cX12_isTest 10 = .ok (.iload_n 0, 1) := by decide +kernel
theorem dX12_isTest_11 : decode cX12_isTest 11 = .ok (.bipush 6, 2) := by decide +kernel
theorem dX12_isTest_13 : decode cX12_isTest 13 = .ok (.if_icmp .ne 7, 3) := by decide +kernel
theorem dX12_isTest_16 : decode cX12_isTest 16 = .ok (.iconst 1, 1) := by decide +kernel
theorem dX12_isTest_17 : decode cX12_isTest 17 = .ok (.goto 4, 3) := by decide +kernel
theorem dX12_isTest_20 : decode cX12_isTest 20 = .ok (.iconst 0, 1) := by decide +kernel
theorem dX12_isTest_21 : decode cX12_isTest 21 = .ok (.ireturn, 1) := by decide +kernel
theorem dX12_operand_0 : decode cX12_operand 0 = .ok (.aload_n 0, 1) := by decide +kernel
theorem dX12_operand_1 : decode cX12_operand 1 = .ok (.invokevirtual 235, 3) := by decide +kernel
theorem dX12_operand_4 : decode cX12_operand 4 = .ok (.aload_n 0, 1) := by decide +kernel
theorem dX12_operand_5 : decode cX12_operand 5 = .ok (.getfield 36, 3) := by decide +kernel
theorem dX12_operand_8 : decode cX12_operand 8 = .ok (.ifCond .le 5, 3) := by decide +kernel
theorem dX12_operand_11 : decode cX12_operand 11 = .ok (.iconst 1, 1) := by decide +kernel
theorem dX12_operand_12 : decode cX12_operand 12 = .ok (.ireturn, 1) := by decide +kernel
theorem dX12_operand_13 : decode cX12_operand 13 = .ok (.aload_n 0, 1) := by decide +kernel
theorem dX12_operand_14 : decode cX12_operand 14 = .ok (.getfield 138, 3) := by decide +kernel
theorem dX12_operand_17 : decode cX12_operand 17 = .ok (.iconst 1, 1) := by decide +kernel
theorem dX12_operand_18 : decode cX12_operand 18 = .ok (.isub, 1) := by decide +kernel
theorem dX12_operand_19 : decode cX12_operand 19 = .ok (.istore_n 1, 1) := by decide +kernel
theorem dX12_operand_20 : decode cX12_operand 20 = .ok (.aload_n 0, 1) := by decide +kernel
theorem dX12_operand_21 : decode cX12_operand 21 = .ok (.getfield 122, 3) := by decide +kernel
theorem dX12_operand_24 : decode cX12_operand 24 = .ok (.iload_n 1, 1) := by decide +kernel
theorem dX12_operand_25 : decode cX12_operand 25 = .ok (.iaload, 1) := by decide +kernel
theorem dX12_operand_26 : decode cX12_operand 26 = .ok (.invokestatic 313, 3) := by decide +kernel
theorem dX12_operand_29 : decode cX12_operand 29 = .ok (.ifCond .eq 16, 3) := by decide +kernel
theorem dX12_operand_32 : decode cX12_operand 32 = .ok (.aload_n 0, 1) := by decide +kernel
theorem dX12_operand_33 : decode cX12_operand 33 = .ok (.getfield 128, 3) := by decide +kernel
theorem dX12_operand_36 : decode cX12_operand 36 = .ok (.iload_n 1, 1) := by decide +kernel
theorem dX12_operand_37 : decode cX12_operand 37 = .ok (.baload, 1) := by decide +kernel
theorem dX12_operand_38 : decode cX12_operand 38 = .ok (.ifCond .eq 7, 3) := by decide +kernel
theorem dX12_operand_41 : decode cX12_operand 41 = .ok (.iconst 1, 1) := by decide +kernel
theorem dX12_operand_42 : decode cX12_operand 42 = .ok (.goto 4, 3) := by decide +kernel
theorem dX12_operand_45 : decode cX12_operand 45 = .ok (.iconst 0, 1) := by decide +kernel
theorem dX12_operand_46 : decode cX12_operand 46 = .ok (.istore_n 2, 1) := by decide +kernel
theorem dX12_operand_47 : decode cX12_operand 47 = .ok (.iload_n 2, 1) := by decide +kernel
theorem dX12_operand_48 : decode cX12_operand 48 = .ok (.ifCond .eq 62, 3) := by decide +kernel
theorem dX12_operand_51 : decode cX12_operand 51 = .ok (.aload_n 0, 1) := by decide +kernel
theorem dX12_operand_52 : decode cX12_operand 52 = .ok (.ldc2_w 284, 3) := by decide +kernel
theorem dX12_operand_55 : decode cX12_operand 55 = .ok (.invokevirtual 316, 3) := by decide +kernel
theorem dX12_operand_58 : decode cX12_operand 58 = .ok (.ifCond .eq 52, 3) := by decide +kernel
theorem dX12_operand_61 : decode cX12_operand 61 = .ok (.aload_n 0, 1) := by decide +kernel
theorem dX12_operand_62 : decode cX12_operand 62 = .ok (.getfield 141, 3) := by decide +kernel
theorem dX12_operand_65 : decode cX12_operand 65 = .ok (.bipush 7, 2) := by decide +kernel
theorem dX12_operand_67 : decode cX12_operand 67 = .ok (.if_icmp .ne 12, 3) := by decide +kernel
theorem dX12_operand_70 : decode cX12_operand 70 = .ok (.aload_n 0, 1) := by decide +kernel
theorem dX12_operand_71 : decode cX12_operand 71 = .ok (.iconst 5, 1) := by decide +kernel
theorem dX12_operand_72 : decode cX12_operand 72 = .ok (.aload_n 0, 1) := by decide +kernel
theorem dX12_operand_73 : decode cX12_operand 73 = .ok (.getfield 23, 3) := by decide +kernel
theorem dX12_operand_76 : decode cX12_operand 76 = .ok (.invokevirtual 224, 3) := by decide +kernel
theorem dX12_operand_79 : decode cX12_operand 79 = .ok (.aload_n 0, 1) := by decide +kernel
theorem dX12_operand_80 : decode cX12_operand 80 = .ok (.getfield 36, 3) := by decide +kernel
theorem dX12_operand_83 : decode cX12_operand 83 = .ok (.ifCond .le 5, 3) := by decide +kernel
theorem dX12_operand_86 : decode cX12_operand 86 = .ok (.iconst 1, 1) := by decide +kernel
theorem dX12_operand_87 : decode cX12_operand 87 = .ok (.ireturn, 1) := by decide +kernel
theorem dX12_operand_88 : decode cX12_operand 88 = .ok (.aload_n 0, 1) := by decide +kernel
theorem dX12_operand_89 : decode cX12_operand 89 = .ok (.dup, 1) := by decide +kernel
theorem dX12_operand_90 : decode cX12_operand 90 = .ok (.getfield 141, 3) := by decide +kernel
theorem dX12_operand_93 : decode cX12_operand 93 = .ok (.iconst 1, 1) := by decide +kernel
theorem dX12_operand_94 : decode cX12_operand 94 = .ok (.iadd, 1) := by decide +kernel
theorem dX12_operand_95 : decode cX12_operand 95 = .ok (.putfield 141, 3) := by decide +kernel
theorem dX12_operand_98 : decode cX12_operand 98 = .ok (.aload_n 0, 1) := by decide +kernel
theorem dX12_operand_99 : decode cX12_operand 99 = .ok (.bipush 43, 2) := by decide +kernel
theorem dX12_operand_101 : decode cX12_operand 101 = .ok (.invokevirtual 320, 3) := by decide +kernel
theorem dX12_operand_104 : decode cX12_operand 104 = .ok (.aload_n 0, 1) := by decide +kernel
theorem dX12_operand_105 : decode cX12_operand 105 = .ok (.invokevirtual 241, 3) := by decide +kernel
theorem dX12_operand_108 : decode cX12_operand 108 = .ok (.iconst 0, 1) := by decide +kernel
theorem dX12_operand_109 : decode cX12_operand 109 = .ok (.ireturn, 1) := by decide +kernel
theorem dX12_operand_110 : decode cX12_operand 110 = .ok (.aload_n 0, 1) := by decide +kernel
theorem dX12_operand_111 : decode cX12_operand 111 = .ok (.getfield 128, 3) := by decide +kernel
theorem dX12_operand_114 : decode cX12_operand 114 = .ok (.iload_n 1, 1) := by decide +kernel
theorem dX12_operand_115 : decode cX12_operand 115 = .ok (.iconst 0, 1) := by decide +kernel
theorem dX12_operand_116 : decode cX12_operand 116 = .ok (.bastore, 1) := by decide +kernel
theorem dX12_operand_117 : decode cX12_operand 117 = .ok (.iload_n 2, 1) := by decide +kernel
theorem dX12_operand_118 : decode cX12_operand 118 = .ok (.ifCond .eq 19, 3) := by decide +kernel
theorem dX12_operand_121 : decode cX12_operand 121 = .ok (.aload_n 0, 1) := by decide +kernel
theorem dX12_operand_122 : decode cX12_operand 122 = .ok (.bipush 91, 2) := by decide +kernel
theorem dX12_operand_124 : decode cX12_operand 124 = .ok (.invokevirtual 238, 3) := by decide +kernel
theorem dX12_operand_127 : decode cX12_operand 127 = .ok (.ifCond .eq 10, 3) := by decide +kernel
theorem dX12_operand_130 : decode cX12_operand 130 = .ok (.aload_n 0, 1) := by decide +kernel
theorem dX12_operand_131 : decode cX12_operand 131 = .ok (.iconst 5, 1) := by decide +kernel
theorem dX12_operand_132 : decode cX12_operand 132 = .ok (.invokevirtual 323, 3) := by decide +kernel
theorem dX12_operand_135 : decode cX12_operand 135 = .ok (.iconst 0, 1) := by decide +kernel
theorem dX12_operand_136 : decode cX12_operand 136 = .ok (.ireturn, 1) := by decide +kernel
theorem dX12_operand_137 : decode cX12_operand 137 = .ok (.iload_n 2, 1) := by decide +kernel
theorem dX12_operand_138 : decode cX12_operand 138 = .ok (.ifCond .eq 33, 3) := by decide +kernel
theorem dX12_operand_141 : decode cX12_operand 141 = .ok (.aload_n 0, 1) := by decide +kernel
theorem dX12_operand_142 : decode cX12_operand 142 = .ok (.ldc2_w 286, 3) := by decide +kernel
theorem dX12_operand_145 : decode cX12_operand 145 = .ok (.invokevirtual 316, 3) := by decide +kernel
theorem dX12_operand_148 : decode cX12_operand 148 = .ok (.ifCond .eq 23, 3) := by decide +kernel
theorem dX12_operand_151 : decode cX12_operand 151 = .ok (.aload_n 0, 1) := by decide +kernel
theorem dX12_operand_152 : decode cX12_operand 152 = .ok (.bipush 30, 2) := by decide +kernel
theorem dX12_operand_154 : decode cX12_operand 154 = .ok (.iconst 0, 1) := by decide +kernel
theorem dX12_operand_155 : decode cX12_operand 155 = .ok (.invokevirtual 307, 3) := by decide +kernel
theorem dX12_operand_158 : decode cX12_operand 158 = .ok (.aload_n 0, 1) := by decide +kernel
theorem dX12_operand_159 : decode cX12_operand 159 = .ok (.getfield 125, 3) := by decide +kernel
theorem dX12_operand_162 : decode cX12_operand 162 = .ok (.iload_n 1, 1) := by decide +kernel
theorem dX12_operand_163 : decode cX12_operand 163 = .ok (.iconst 2, 1) := by decide +kernel
theorem dX12_operand_164 : decode cX12_operand 164 = .ok (.iastore, 1) := by decide +kernel
theorem dX12_operand_165 : decode cX12_operand 165 = .ok (.aload_n 0, 1) := by decide +kernel
theorem dX12_operand_166 : decode cX12_operand 166 = .ok (.invokevirtual 241, 3) := by decide +kernel
theorem dX12_operand_169 : decode cX12_operand 169 = .ok (.iconst 1, 1) := by decide +kernel
theorem dX12_operand_170 : decode cX12_operand 170 = .ok (.ireturn, 1) := by decide +kernel
theorem dX12_operand_171 : decode cX12_operand 171 = .ok (.aload_n 0, 1) := by decide +kernel
theorem dX12_operand_172 : decode cX12_operand 172 = .ok (.bipush 40, 2) := by decide +kernel
theorem dX12_operand_174 : decode cX12_operand 174 = .ok (.invokevirtual 238, 3) := by decide +kernel
theorem dX12_operand_177 : decode cX12_operand 177 = .ok (.ifCond .eq 10, 3) := by decide +kernel
theorem dX12_operand_180 : decode cX12_operand 180 = .ok (.aload_n 0, 1) := by decide +kernel
theorem dX12_operand_181 : decode cX12_operand 181 = .ok (.iconst 2, 1) := by decide +kernel
theorem dX12_operand_182 : decode cX12_operand 182 = .ok (.invokevirtual 323, 3) := by decide +kernel
theorem dX12_operand_185 : decode cX12_operand 185 = .ok (.iconst 0, 1) := by decide +kernel
theorem dX12_operand_186 : decode cX12_operand 186 = .ok (.ireturn, 1) := by decide +kernel
theorem dX12_operand_187 : decode cX12_operand 187 = .ok (.aload_n 0, 1) := by decide +kernel
theorem dX12_operand_188 : decode cX12_operand 188 = .ok (.ldc2_w 288, 3) := by decide +kernel
theorem dX12_operand_191 : decode cX12_operand 191 = .ok (.invokevirtual 316, 3) := by decide +kernel
theorem dX12_operand_194 : decode cX12_operand 194 = .ok (.ifCond .ne 23, 3) := by decide +kernel
theorem dX12_operand_197 : decode cX12_operand 197 = .ok (.aload_n 0, 1) := by decide +kernel
theorem dX12_operand_198 : decode cX12_operand 198 = .ok (.ldc2_w 290, 3) := by decide +kernel
theorem dX12_operand_201 : decode cX12_operand 201 = .ok (.invokevirtual 316, 3) := by decide +kernel
theorem dX12_operand_204 : decode cX12_operand 204 = .ok (.ifCond .ne 13, 3) := by decide +kernel
theorem dX12_operand_207 : decode cX12_operand 207 = .ok (.aload_n 0, 1) := by decide +kernel
theorem dX12_operand_208 : decode cX12_operand 208 = .ok (.ldc2_w 278, 3) := by decide +kernel
theorem dX12_operand_211 : decode cX12_operand 211 = .ok (.invokevirtual 316, 3) := by decide +kernel
theorem dX12_operand_214 : decode cX12_operand 214 = .ok (.ifCond .eq 99, 3) := by decide +kernel
theorem dX12_operand_217 : decode cX12_operand 217 = .ok (.aload_n 0, 1) := by decide +kernel
theorem dX12_operand_218 : decode cX12_operand 218 = .ok (.ldc2_w 288, 3) := by decide +kernel
theorem dX12_operand_221 : decode cX12_operand 221 = .ok (.invokevirtual 316, 3) := by decide +kernel
theorem dX12_operand_224 : decode cX12_operand 224 = .ok (.ifCond .eq 8, 3) := by decide +kernel
theorem dX12_operand_227 : decode cX12_operand 227 = .ok (.bipush 36, 2) := by decide +kernel
theorem dX12_operand_229 : decode cX12_operand 229 = .ok (.goto 20, 3) := by decide +kernel
theorem dX12_operand_232 : decode cX12_operand 232 = .ok (.aload_n 0, 1) := by decide +kernel
theorem dX12_operand_233 : decode cX12_operand 233 = .ok (.ldc2_w 290, 3) := by decide +kernel
theorem dX12_operand_236 : decode cX12_operand 236 = .ok (.invokevirtual 316, 3) := by decide +kernel
theorem dX12_operand_239 : decode cX12_operand 239 = .ok (.ifCond .eq 8, 3) := by decide +kernel
theorem dX12_operand_242 : decode cX12_operand 242 = .ok (.bipush 37, 2) := by decide +kernel
theorem dX12_operand_244 : decode cX12_operand 244 = .ok (.goto 5, 3) := by decide +kernel
theorem dX12_operand_247 : decode cX12_operand 247 = .ok (.bipush 44, 2) := by decide +kernel
theorem dX12_operand_249 : decode cX12_operand 249 = .ok (.istore_n 3, 1) := by decide +kernel
theorem dX12_operand_250 : decode cX12_operand 250 = .ok (.aload_n 0, 1) := by decide +kernel
theorem dX12_operand_251 : decode cX12_operand 251 = .ok (.invokevirtual 241, 3) := by decide +kernel
theorem dX12_operand_254 : decode cX12_operand 254 = .ok (.aload_n 0, 1) := by decide +kernel
theorem dX12_operand_255 : decode cX12_operand 255 = .ok (.invokevirtual 235, 3) := by decide +kernel
theorem dX12_operand_258 : decode cX12_operand 258 = .ok (.aload_n 0, 1) := by decide +kernel
theorem dX12_operand_259 : decode cX12_operand 259 = .ok (.bipush 40, 2) := by decide +kernel
theorem dX12_operand_261 : decode cX12_operand 261 = .ok (.invokevirtual 238, 3) := by decide +kernel
theorem dX12_operand_264 : decode cX12_operand 264 = .ok (.ifCond .ne 12, 3) := by decide +kernel
theorem dX12_operand_267 : decode cX12_operand 267 = .ok (.aload_n 0, 1) := by decide +kernel
theorem dX12_operand_268 : decode cX12_operand 268 = .ok (.iconst 1, 1) := by decide +kernel
theorem dX12_operand_269 : decode cX12_operand 269 = .ok (.aload_n 0, 1) := by decide +kernel
theorem dX12_operand_270 : decode cX12_operand 270 = .ok (.getfield 23, 3) := by decide +kernel
theorem dX12_operand_273 : decode cX12_operand 273 = .ok (.invokevirtual 224, 3) := by decide +kernel
theorem dX12_operand_276 : decode cX12_operand 276 = .ok (.aload_n 0, 1) := by decide +kernel
theorem dX12_operand_277 : decode cX12_operand 277 = .ok (.iload_n 3, 1) := by decide +kernel
theorem dX12_operand_278 : decode cX12_operand 278 = .ok (.bipush 44, 2) := by decide +kernel
theorem dX12_operand_280 : decode cX12_operand 280 = .ok (.if_icmp .ne 8, 3) := by decide +kernel
theorem dX12_operand_283 : decode cX12_operand 283 = .ok (.bipush 6, 2) := by decide +kernel
theorem dX12_operand_285 : decode cX12_operand 285 = .ok (.goto 4, 3) := by decide +kernel
theorem dX12_operand_288 : decode cX12_operand 288 = .ok (.iconst 3, 1) := by decide +kernel
theorem dX12_operand_289 : decode cX12_operand 289 = .ok (.invokevirtual 323, 3) := by decide +kernel
theorem dX12_operand_292 : decode cX12_operand 292 = .ok (.aload_n 0, 1) := by decide +kernel
theorem dX12_operand_293 : decode cX12_operand 293 = .ok (.getfield 36, 3) := by decide +kernel
theorem dX12_operand_296 : decode cX12_operand 296 = .ok (.ifCond .ne 15, 3) := by decide +kernel
theorem dX12_operand_299 : decode cX12_operand 299 = .ok (.aload_n 0, 1) := by decide +kernel
theorem dX12_operand_300 : decode cX12_operand 300 = .ok (.getfield 132, 3) := by decide +kernel
theorem dX12_operand_303 : decode cX12_operand 303 = .ok (.aload_n 0, 1) := by decide +kernel
theorem dX12_operand_304 : decode cX12_operand 304 = .ok (.getfield 138, 3) := by decide +kernel
theorem dX12_operand_307 : decode cX12_operand 307 = .ok (.iconst 1, 1) := by decide +kernel
theorem dX12_operand_308 : decode cX12_operand 308 = .ok (.isub, 1) := by decide +kernel
theorem dX12_operand_309 : decode cX12_operand 309 = .ok (.iload_n 3, 1) := by decide +kernel
theorem dX12_operand_310 : decode cX12_operand 310 = .ok (.iastore, 1) := by decide +kernel
theorem dX12_operand_311 : decode cX12_operand 311 = .ok (.iconst 0, 1) := by decide +kernel
theorem dX12_operand_312 : decode cX12_operand 312 = .ok (.ireturn, 1) := by decide +kernel
theorem dX12_operand_313 : decode cX12_operand 313 = .ok (.aload_n 0, 1) := by decide +kernel
theorem dX12_operand_314 : decode cX12_operand 314 = .ok (.getfield 20, 3) := by decide +kernel
theorem dX12_operand_317 : decode cX12_operand 317 = .ok (.iconst 2, 1) := by decide +kernel
theorem dX12_operand_318 : decode cX12_operand 318 = .ok (.if_icmp .ne 7, 3) := by decide +kernel
theorem dX12_operand_321 : decode cX12_operand 321 = .ok (.iconst 0, 1) := by decide +kernel
theorem dX12_operand_322 : decode cX12_operand 322 = .ok (.goto 104, 3) := by decide +kernel
theorem dX12_operand_325 : decode cX12_operand 325 = .ok (.aload_n 0, 1) := by decide +kernel
theorem dX12_operand_326 : decode cX12_operand 326 = .ok (.ldc2_w 254, 3) := by decide +kernel
theorem dX12_operand_329 : decode cX12_operand 329 = .ok (.invokevirtual 316, 3) := by decide +kernel
theorem dX12_operand_332 : decode cX12_operand 332 = .ok (.ifCond .eq 7, 3) := by decide +kernel
theorem dX12_operand_335 : decode cX12_operand 335 = .ok (.iconst 1, 1) := by decide +kernel
theorem dX12_operand_336 : decode cX12_operand 336 = .ok (.goto 90, 3) := by decide +kernel
theorem dX12_operand_339 : decode cX12_operand 339 = .ok (.aload_n 0, 1) := by decide +kernel
theorem dX12_operand_340 : decode cX12_operand 340 = .ok (.ldc2_w 266, 3) := by decide +kernel
theorem dX12_operand_343 : decode cX12_operand 343 = .ok (.invokevirtual 316, 3) := by decide +kernel
theorem dX12_operand_346 : decode cX12_operand 346 = .ok (.ifCond .eq 7, 3) := by decide +kernel
theorem dX12_operand_349 : decode cX12_operand 349 = .ok (.iconst 2, 1) := by decide +kernel
theorem dX12_operand_350 : decode cX12_operand 350 = .ok (.goto 76, 3) := by decide +kernel
theorem dX12_operand_353 : decode cX12_operand 353 = .ok (.aload_n 0, 1) := by decide +kernel
theorem dX12_operand_354 : decode cX12_operand 354 = .ok (.ldc2_w 268, 3) := by decide +kernel
theorem dX12_operand_357 : decode cX12_operand 357 = .ok (.invokevirtual 316, 3) := by decide +kernel
theorem dX12_operand_360 : decode cX12_operand 360 = .ok (.ifCond .eq 7, 3) := by decide +kernel
theorem dX12_operand_363 : decode cX12_operand 363 = .ok (.iconst 3, 1) := by decide +kernel
theorem dX12_operand_364 : decode cX12_operand 364 = .ok (.goto 62, 3) := by decide +kernel
theorem dX12_operand_367 : decode cX12_operand 367 = .ok (.aload_n 0, 1) := by decide +kernel
theorem dX12_operand_368 : decode cX12_operand 368 = .ok (.ldc2_w 270, 3) := by decide +kernel
theorem dX12_operand_371 : decode cX12_operand 371 = .ok (.invokevirtual 316, 3) := by decide +kernel
theorem dX12_operand_374 : decode cX12_operand 374 = .ok (.ifCond .eq 7, 3) := by decide +kernel
theorem dX12_operand_377 : decode cX12_operand 377 = .ok (.iconst 4, 1) := by decide +kernel
theorem dX12_operand_378 : decode cX12_operand 378 = .ok (.goto 48, 3) := by decide +kernel
theorem dX12_operand_381 : decode cX12_operand 381 = .ok (.aload_n 0, 1) := by decide +kernel
theorem dX12_operand_382 : decode cX12_operand 382 = .ok (.ldc2_w 272, 3) := by decide +kernel
theorem dX12_operand_385 : decode cX12_operand 385 = .ok (.invokevirtual 316, 3) := by decide +kernel
theorem dX12_operand_388 : decode cX12_operand 388 = .ok (.ifCond .eq 7, 3) := by decide +kernel
theorem dX12_operand_391 : decode cX12_operand 391 = .ok (.iconst 5, 1) := by decide +kernel
theorem dX12_operand_392 : decode cX12_operand 392 = .ok (.goto 34, 3) := by decide +kernel
theorem dX12_operand_395 : decode cX12_operand 395 = .ok (.aload_n 0, 1) := by decide +kernel
theorem dX12_operand_396 : decode cX12_operand 396 = .ok (.ldc2_w 274, 3) := by decide +kernel
theorem dX12_operand_399 : decode cX12_operand 399 = .ok (.invokevirtual 316, 3) := by decide +kernel
theorem dX12_operand_402 : decode cX12_operand 402 = .ok (.ifCond .eq 8, 3) := by decide +kernel
theorem dX12_operand_405 : decode cX12_operand 405 = .ok (.bipush 6, 2) := by decide +kernel
theorem dX12_operand_407 : decode cX12_operand 407 = .ok (.goto 19, 3) := by decide +kernel
theorem dX12_operand_410 : decode cX12_operand 410 = .ok (.aload_n 0, 1) := by decide +kernel
theorem dX12_operand_411 : decode cX12_operand 411 = .ok (.ldc2_w 276, 3) := by decide +kernel
theorem dX12_operand_414 : decode cX12_operand 414 = .ok (.invokevirtual 316, 3) := by decide +kernel
theorem dX12_operand_417 : decode cX12_operand 417 = .ok (.ifCond .eq 8, 3) := by decide +kernel
theorem dX12_operand_420 : decode cX12_operand 420 = .ok (.bipush 7, 2) := by decide +kernel
theorem dX12_operand_422 : decode cX12_operand 422 = .ok (.goto 4, 3) := by decide +kernel
theorem dX12_operand_425 : decode cX12_operand 425 = .ok (.iconst (-1), 1) := by decide +kernel
theorem dX12_operand_426 : decode cX12_operand 426 = .ok (.istore_n 3, 1) := by decide +kernel
theorem dX12_operand_427 : decode cX12_operand 427 = .ok (.iload_n 3, 1) := by decide +kernel
theorem dX12_operand_428 : decode cX12_operand 428 = .ok (.iconst 5, 1) := by decide +kernel
theorem dX12_operand_429 : decode cX12_operand 429 = .ok (.if_icmp .le 12, 3) := by decide +kernel
theorem dX12_operand_432 : decode cX12_operand 432 = .ok (.aload_n 0, 1) := by decide +kernel
theorem dX12_operand_433 : decode cX12_operand 433 = .ok (.getfield 118, 3) := by decide +kernel
theorem dX12_operand_436 : decode cX12_operand 436 = .ok (.ifCond .ne 5, 3) := by decide +kernel
theorem dX12_operand_439 : decode cX12_operand 439 = .ok (.iconst (-1), 1) := by decide +kernel
theorem dX12_operand_440 : decode cX12_operand 440 = .ok (.istore_n 3, 1) := by decide +kernel
theorem dX12_operand_441 : decode cX12_operand 441 = .ok (.iload_n 3, 1) := by decide +kernel
theorem dX12_operand_442 : decode cX12_operand 442 = .ok (.iconst (-1), 1) := by decide +kernel
theorem dX12_operand_443 : decode cX12_operand 443 = .ok (.if_icmp .ne 12, 3) := by decide +kernel
theorem dX12_operand_446 : decode cX12_operand 446 = .ok (.aload_n 0, 1) := by decide +kernel
theorem dX12_operand_447 : decode cX12_operand 447 = .ok (.iconst 1, 1) := by decide +kernel
theorem dX12_operand_448 : decode cX12_operand 448 = .ok (.aload_n 0, 1) := by decide +kernel
theorem dX12_operand_449 : decode cX12_operand 449 = .ok (.getfield 23, 3) := by decide +kernel
theorem dX12_operand_452 : decode cX12_operand 452 = .ok (.invokevirtual 224, 3) := by decide +kernel
theorem dX12_operand_455 : decode cX12_operand 455 = .ok (.aload_n 0, 1) := by decide +kernel
theorem dX12_operand_456 : decode cX12_operand 456 = .ok (.getfield 36, 3) := by decide +kernel
theorem dX12_operand_459 : decode cX12_operand 459 = .ok (.ifCond .le 5, 3) := by decide +kernel
theorem dX12_operand_462 : decode cX12_operand 462 = .ok (.iconst 1, 1) := by decide +kernel
theorem dX12_operand_463 : decode cX12_operand 463 = .ok (.ireturn, 1) := by decide +kernel
theorem dX12_operand_464 : decode cX12_operand 464 = .ok (.aload_n 0, 1) := by decide +kernel
theorem dX12_operand_465 : decode cX12_operand 465 = .ok (.iload_n 3, 1) := by decide +kernel
theorem dX12_operand_466 : decode cX12_operand 466 = .ok (.aload_n 0, 1) := by decide +kernel
theorem dX12_operand_467 : decode cX12_operand 467 = .ok (.getfield 29, 3) := by decide +kernel
theorem dX12_operand_470 : decode cX12_operand 470 = .ok (.invokevirtual 307, 3) := by decide +kernel
theorem dX12_operand_473 : decode cX12_operand 473 = .ok (.aload_n 0, 1) := by decide +kernel
theorem dX12_operand_474 : decode cX12_operand 474 = .ok (.invokevirtual 241, 3) := by decide +kernel
theorem dX12_operand_477 : decode cX12_operand 477 = .ok (.iconst 1, 1) := by decide +kernel
theorem dX12_operand_478 : decode cX12_operand 478 = .ok (.ireturn, 1) := by decide +kernel
theorem dX12_goesOn_0 : decode cX12_goesOn 0 = .ok (.aload_n 0, 1) := by decide +kernel
theorem dX12_goesOn_1 : decode cX12_goesOn 1 = .ok (.invokevirtual 235, 3) := by decide +kernel
theorem dX12_goesOn_4 : decode cX12_goesOn 4 = .ok (.aload_n 0, 1) := by decide +kernel
theorem dX12_goesOn_5 : decode cX12_goesOn 5 = .ok (.getfield 36, 3) := by decide +kernel
theorem dX12_goesOn_8 : decode cX12_goesOn 8 = .ok (.ifCond .le 5, 3) := by decide +kernel
theorem dX12_goesOn_11 : decode cX12_goesOn 11 = .ok (.iconst 0, 1) := by decide +kernel
theorem dX12_goesOn_12 : decode cX12_goesOn 12 = .ok (.ireturn, 1) := by decide +kernel
theorem dX12_goesOn_13 : decode cX12_goesOn 13 = .ok (.aload_n 0, 1) := by decide +kernel
theorem dX12_goesOn_14 : decode cX12_goesOn 14 = .ok (.getfield 138, 3) := by decide +kernel
theorem dX12_goesOn_17 : decode cX12_goesOn 17 = .ok (.iconst 1, 1) := by decide +kernel
theorem dX12_goesOn_18 : decode cX12_goesOn 18 = .ok (.isub, 1) := by decide +kernel
theorem dX12_goesOn_19 : decode cX12_goesOn 19 = .ok (.istore_n 1, 1) := by decide +kernel
theorem dX12_goesOn_20 : decode cX12_goesOn 20 = .ok (.aload_n 0, 1) := by decide +kernel
theorem dX12_goesOn_21 : decode cX12_goesOn 21 = .ok (.getfield 122, 3) := by decide +kernel
theorem dX12_goesOn_24 : decode cX12_goesOn 24 = .ok (.iload_n 1, 1) := by decide +kernel
theorem dX12_goesOn_25 : decode cX12_goesOn 25 = .ok (.iaload, 1) := by decide +kernel
theorem dX12_goesOn_26 : decode cX12_goesOn 26 = .ok (.istore_n 2, 1) := by decide +kernel
theorem dX12_goesOn_27 : decode cX12_goesOn 27 = .ok (.iload_n 2, 1) := by decide +kernel
theorem dX12_goesOn_28 : decode cX12_goesOn 28 = .ok (.invokestatic 313, 3) := by decide +kernel
theorem dX12_goesOn_31 : decode cX12_goesOn 31 = .ok (.istore_n 3, 1) := by decide +kernel
theorem dX12_goesOn_32 : decode cX12_goesOn 32 = .ok (.aload_n 0, 1) := by decide +kernel
theorem dX12_goesOn_33 : decode cX12_goesOn 33 = .ok (.getfield 125, 3) := by decide +kernel
theorem dX12_goesOn_36 : decode cX12_goesOn 36 = .ok (.iload_n 1, 1) := by decide +kernel
theorem dX12_goesOn_37 : decode cX12_goesOn 37 = .ok (.iaload, 1) := by decide +kernel
theorem dX12_goesOn_38 : decode cX12_goesOn 38 = .ok (.iconst 2, 1) := by decide +kernel
theorem dX12_goesOn_39 : decode cX12_goesOn 39 = .ok (.if_icmp .ge 149, 3) := by decide +kernel
theorem dX12_goesOn_42 : decode cX12_goesOn 42 = .ok (.aload_n 0, 1) := by decide +kernel
theorem dX12_goesOn_43 : decode cX12_goesOn 43 = .ok (.bipush 43, 2) := by decide +kernel
theorem dX12_goesOn_45 : decode cX12_goesOn 45 = .ok (.invokevirtual 238, 3) := by decide +kernel
theorem dX12_goesOn_48 : decode cX12_goesOn 48 = .ok (.ifCond .ne 39, 3) := by decide +kernel
theorem dX12_goesOn_51 : decode cX12_goesOn 51 = .ok (.aload_n 0, 1) := by decide +kernel
theorem dX12_goesOn_52 : decode cX12_goesOn 52 = .ok (.bipush 45, 2) := by decide +kernel
theorem dX12_goesOn_54 : decode cX12_goesOn 54 = .ok (.invokevirtual 238, 3) := by decide +kernel
theorem dX12_goesOn_57 : decode cX12_goesOn 57 = .ok (.ifCond .ne 30, 3) := by decide +kernel
theorem dX12_goesOn_60 : decode cX12_goesOn 60 = .ok (.aload_n 0, 1) := by decide +kernel
theorem dX12_goesOn_61 : decode cX12_goesOn 61 = .ok (.bipush 42, 2) := by decide +kernel
theorem dX12_goesOn_63 : decode cX12_goesOn 63 = .ok (.invokevirtual 238, 3) := by decide +kernel
theorem dX12_goesOn_66 : decode cX12_goesOn 66 = .ok (.ifCond .ne 21, 3) := by decide +kernel
theorem dX12_goesOn_69 : decode cX12_goesOn 69 = .ok (.aload_n 0, 1) := by decide +kernel
theorem dX12_goesOn_70 : decode cX12_goesOn 70 = .ok (.bipush 47, 2) := by decide +kernel
theorem dX12_goesOn_72 : decode cX12_goesOn 72 = .ok (.invokevirtual 238, 3) := by decide +kernel
theorem dX12_goesOn_75 : decode cX12_goesOn 75 = .ok (.ifCond .ne 12, 3) := by decide +kernel
theorem dX12_goesOn_78 : decode cX12_goesOn 78 = .ok (.aload_n 0, 1) := by decide +kernel
theorem dX12_goesOn_79 : decode cX12_goesOn 79 = .ok (.bipush 37, 2) := by decide +kernel
theorem dX12_goesOn_81 : decode cX12_goesOn 81 = .ok (.invokevirtual 238, 3) := by decide +kernel
theorem dX12_goesOn_84 : decode cX12_goesOn 84 = .ok (.ifCond .eq 104, 3) := by decide +kernel
theorem dX12_goesOn_87 : decode cX12_goesOn 87 = .ok (.aload_n 0, 1) := by decide +kernel
theorem dX12_goesOn_88 : decode cX12_goesOn 88 = .ok (.aload_n 0, 1) := by decide +kernel
theorem dX12_goesOn_89 : decode cX12_goesOn 89 = .ok (.bipush 43, 2) := by decide +kernel
theorem dX12_goesOn_91 : decode cX12_goesOn 91 = .ok (.invokevirtual 238, 3) := by decide +kernel
theorem dX12_goesOn_94 : decode cX12_goesOn 94 = .ok (.ifCond .ne 12, 3) := by decide +kernel
theorem dX12_goesOn_97 : decode cX12_goesOn 97 = .ok (.aload_n 0, 1) := by decide +kernel
theorem dX12_goesOn_98 : decode cX12_goesOn 98 = .ok (.bipush 45, 2) := by decide +kernel
theorem dX12_goesOn_100 : decode cX12_goesOn 100 = .ok (.invokevirtual 238, 3) := by decide +kernel
theorem dX12_goesOn_103 : decode cX12_goesOn 103 = .ok (.ifCond .eq 7, 3) := by decide +kernel
theorem dX12_goesOn_106 : decode cX12_goesOn 106 = .ok (.iconst 5, 1) := by decide +kernel
theorem dX12_goesOn_107 : decode cX12_goesOn 107 = .ok (.goto 5, 3) := by decide +kernel
theorem dX12_goesOn_110 : decode cX12_goesOn 110 = .ok (.bipush 6, 2) := by decide +kernel
theorem dX12_goesOn_112 : decode cX12_goesOn 112 = .ok (.invokevirtual 326, 3) := by decide +kernel
theorem dX12_goesOn_115 : decode cX12_goesOn 115 = .ok (.aload_n 0, 1) := by decide +kernel
theorem dX12_goesOn_116 : decode cX12_goesOn 116 = .ok (.aload_n 0, 1) := by decide +kernel
theorem dX12_goesOn_117 : decode cX12_goesOn 117 = .ok (.bipush 43, 2) := by decide +kernel
theorem dX12_goesOn_119 : decode cX12_goesOn 119 = .ok (.invokevirtual 238, 3) := by decide +kernel
theorem dX12_goesOn_122 : decode cX12_goesOn 122 = .ok (.ifCond .eq 8, 3) := by decide +kernel
theorem dX12_goesOn_125 : decode cX12_goesOn 125 = .ok (.bipush 31, 2) := by decide +kernel
theorem dX12_goesOn_127 : decode cX12_goesOn 127 = .ok (.goto 47, 3) := by decide +kernel
theorem dX12_goesOn_130 : decode cX12_goesOn 130 = .ok (.aload_n 0, 1) := by decide +kernel
theorem dX12_goesOn_131 : decode cX12_goesOn 131 = .ok (.bipush 45, 2) := by decide +kernel
theorem dX12_goesOn_133 : decode cX12_goesOn 133 = .ok (.invokevirtual 238, 3) := by decide +kernel
theorem dX12_goesOn_136 : decode cX12_goesOn 136 = .ok (.ifCond .eq 8, 3) := by decide +kernel
theorem dX12_goesOn_139 : decode cX12_goesOn 139 = .ok (.bipush 32, 2) := by decide +kernel
theorem dX12_goesOn_141 : decode cX12_goesOn 141 = .ok (.goto 33, 3) := by decide +kernel
theorem dX12_goesOn_144 : decode cX12_goesOn 144 = .ok (.aload_n 0, 1) := by decide +kernel
theorem dX12_goesOn_145 : decode cX12_goesOn 145 = .ok (.bipush 42, 2) := by decide +kernel
theorem dX12_goesOn_147 : decode cX12_goesOn 147 = .ok (.invokevirtual 238, 3) := by decide +kernel
theorem dX12_goesOn_150 : decode cX12_goesOn 150 = .ok (.ifCond .eq 8, 3) := by decide +kernel
theorem dX12_goesOn_153 : decode cX12_goesOn 153 = .ok (.bipush 33, 2) := by decide +kernel
theorem dX12_goesOn_155 : decode cX12_goesOn 155 = .ok (.goto 19, 3) := by decide +kernel
theorem dX12_goesOn_158 : decode cX12_goesOn 158 = .ok (.aload_n 0, 1) := by decide +kernel
theorem dX12_goesOn_159 : decode cX12_goesOn 159 = .ok (.bipush 47, 2) := by decide +kernel
theorem dX12_goesOn_161 : decode cX12_goesOn 161 = .ok (.invokevirtual 238, 3) := by decide +kernel
theorem dX12_goesOn_164 : decode cX12_goesOn 164 = .ok (.ifCond .eq 8, 3) := by decide +kernel
theorem dX12_goesOn_167 : decode cX12_goesOn 167 = .ok (.bipush 34, 2) := by decide +kernel
theorem dX12_goesOn_169 : decode cX12_goesOn 169 = .ok (.goto 5, 3) := by decide +kernel
theorem dX12_goesOn_172 : decode cX12_goesOn 172 = .ok (.bipush 35, 2) := by decide +kernel
theorem dX12_goesOn_174 : decode cX12_goesOn 174 = .ok (.invokevirtual 320, 3) := by decide +kernel
theorem dX12_goesOn_177 : decode cX12_goesOn 177 = .ok (.aload_n 0, 1) := by decide +kernel
theorem dX12_goesOn_178 : decode cX12_goesOn 178 = .ok (.invokevirtual 241, 3) := by decide +kernel
theorem dX12_goesOn_181 : decode cX12_goesOn 181 = .ok (.aload_n 0, 1) := by decide +kernel
theorem dX12_goesOn_182 : decode cX12_goesOn 182 = .ok (.iconst 0, 1) := by decide +kernel
theorem dX12_goesOn_183 : decode cX12_goesOn 183 = .ok (.putfield 150, 3) := by decide +kernel
theorem dX12_goesOn_186 : decode cX12_goesOn 186 = .ok (.iconst 1, 1) := by decide +kernel
theorem dX12_goesOn_187 : decode cX12_goesOn 187 = .ok (.ireturn, 1) := by decide +kernel
theorem dX12_goesOn_188 : decode cX12_goesOn 188 = .ok (.iload_n 3, 1) := by decide +kernel
theorem dX12_goesOn_189 : decode cX12_goesOn 189 = .ok (.ifCond .eq 96, 3) := by decide +kernel
theorem dX12_goesOn_192 : decode cX12_goesOn 192 = .ok (.aload_n 0, 1) := by decide +kernel
theorem dX12_goesOn_193 : decode cX12_goesOn 193 = .ok (.getfield 125, 3) := by decide +kernel
theorem dX12_goesOn_196 : decode cX12_goesOn 196 = .ok (.iload_n 1, 1) := by decide +kernel
theorem dX12_goesOn_197 : decode cX12_goesOn 197 = .ok (.iaload, 1) := by decide +kernel
theorem dX12_goesOn_198 : decode cX12_goesOn 198 = .ok (.ifCond .ne 87, 3) := by decide +kernel
theorem dX12_goesOn_201 : decode cX12_goesOn 201 = .ok (.aload_n 0, 1) := by decide +kernel
theorem dX12_goesOn_202 : decode cX12_goesOn 202 = .ok (.bipush 60, 2) := by decide +kernel
theorem dX12_goesOn_204 : decode cX12_goesOn 204 = .ok (.invokevirtual 238, 3) := by decide +kernel
theorem dX12_goesOn_207 : decode cX12_goesOn 207 = .ok (.ifCond .ne 21, 3) := by decide +kernel
theorem dX12_goesOn_210 : decode cX12_goesOn 210 = .ok (.aload_n 0, 1) := by decide +kernel
theorem dX12_goesOn_211 : decode cX12_goesOn 211 = .ok (.bipush 62, 2) := by decide +kernel
theorem dX12_goesOn_213 : decode cX12_goesOn 213 = .ok (.invokevirtual 238, 3) := by decide +kernel
theorem dX12_goesOn_216 : decode cX12_goesOn 216 = .ok (.ifCond .ne 12, 3) := by decide +kernel
theorem dX12_goesOn_219 : decode cX12_goesOn 219 = .ok (.aload_n 0, 1) := by decide +kernel
theorem dX12_goesOn_220 : decode cX12_goesOn 220 = .ok (.bipush 61, 2) := by decide +kernel
theorem dX12_goesOn_222 : decode cX12_goesOn 222 = .ok (.invokevirtual 238, 3) := by decide +kernel
theorem dX12_goesOn_225 : decode cX12_goesOn 225 = .ok (.ifCond .eq 60, 3) := by decide +kernel
theorem dX12_goesOn_228 : decode cX12_goesOn 228 = .ok (.aload_n 0, 1) := by decide +kernel
theorem dX12_goesOn_229 : decode cX12_goesOn 229 = .ok (.iconst 5, 1) := by decide +kernel
theorem dX12_goesOn_230 : decode cX12_goesOn 230 = .ok (.invokevirtual 326, 3) := by decide +kernel
theorem dX12_goesOn_233 : decode cX12_goesOn 233 = .ok (.aload_n 0, 1) := by decide +kernel
theorem dX12_goesOn_234 : decode cX12_goesOn 234 = .ok (.aload_n 0, 1) := by decide +kernel
theorem dX12_goesOn_235 : decode cX12_goesOn 235 = .ok (.bipush 60, 2) := by decide +kernel
theorem dX12_goesOn_237 : decode cX12_goesOn 237 = .ok (.invokevirtual 238, 3) := by decide +kernel
theorem dX12_goesOn_240 : decode cX12_goesOn 240 = .ok (.ifCond .eq 8, 3) := by decide +kernel
theorem dX12_goesOn_243 : decode cX12_goesOn 243 = .ok (.bipush 38, 2) := by decide +kernel
theorem dX12_goesOn_245 : decode cX12_goesOn 245 = .ok (.goto 19, 3) := by decide +kernel
theorem dX12_goesOn_248 : decode cX12_goesOn 248 = .ok (.aload_n 0, 1) := by decide +kernel
theorem dX12_goesOn_249 : decode cX12_goesOn 249 = .ok (.bipush 62, 2) := by decide +kernel
theorem dX12_goesOn_251 : decode cX12_goesOn 251 = .ok (.invokevirtual 238, 3) := by decide +kernel
theorem dX12_goesOn_254 : decode cX12_goesOn 254 = .ok (.ifCond .eq 8, 3) := by decide +kernel
theorem dX12_goesOn_257 : decode cX12_goesOn 257 = .ok (.bipush 39, 2) := by decide +kernel
theorem dX12_goesOn_259 : decode cX12_goesOn 259 = .ok (.goto 5, 3) := by decide +kernel
theorem dX12_goesOn_262 : decode cX12_goesOn 262 = .ok (.bipush 40, 2) := by decide +kernel
theorem dX12_goesOn_264 : decode cX12_goesOn 264 = .ok (.invokevirtual 320, 3) := by decide +kernel
theorem dX12_goesOn_267 : decode cX12_goesOn 267 = .ok (.aload_n 0, 1) := by decide +kernel
theorem dX12_goesOn_268 : decode cX12_goesOn 268 = .ok (.getfield 125, 3) := by decide +kernel
theorem dX12_goesOn_271 : decode cX12_goesOn 271 = .ok (.iload_n 1, 1) := by decide +kernel
theorem dX12_goesOn_272 : decode cX12_goesOn 272 = .ok (.iconst 1, 1) := by decide +kernel
theorem dX12_goesOn_273 : decode cX12_goesOn 273 = .ok (.iastore, 1) := by decide +kernel
theorem dX12_goesOn_274 : decode cX12_goesOn 274 = .ok (.aload_n 0, 1) := by decide +kernel
theorem dX12_goesOn_275 : decode cX12_goesOn 275 = .ok (.invokevirtual 241, 3) := by decide +kernel
theorem dX12_goesOn_278 : decode cX12_goesOn 278 = .ok (.aload_n 0, 1) := by decide +kernel
theorem dX12_goesOn_279 : decode cX12_goesOn 279 = .ok (.iconst 0, 1) := by decide +kernel
theorem dX12_goesOn_280 : decode cX12_goesOn 280 = .ok (.putfield 150, 3) := by decide +kernel
theorem dX12_goesOn_283 : decode cX12_goesOn 283 = .ok (.iconst 1, 1) := by decide +kernel
theorem dX12_goesOn_284 : decode cX12_goesOn 284 = .ok (.ireturn, 1) := by decide +kernel
theorem dX12_goesOn_285 : decode cX12_goesOn 285 = .ok (.iload_n 3, 1) := by decide +kernel
theorem dX12_goesOn_286 : decode cX12_goesOn 286 = .ok (.ifCond .eq 114, 3) := by decide +kernel
theorem dX12_goesOn_289 : decode cX12_goesOn 289 = .ok (.aload_n 0, 1) := by decide +kernel
theorem dX12_goesOn_290 : decode cX12_goesOn 290 = .ok (.ldc2_w 282, 3) := by decide +kernel
theorem dX12_goesOn_293 : decode cX12_goesOn 293 = .ok (.invokevirtual 316, 3) := by decide +kernel
theorem dX12_goesOn_296 : decode cX12_goesOn 296 = .ok (.ifCond .ne 13, 3) := by decide +kernel
theorem dX12_goesOn_299 : decode cX12_goesOn 299 = .ok (.aload_n 0, 1) := by decide +kernel
theorem dX12_goesOn_300 : decode cX12_goesOn 300 = .ok (.ldc2_w 280, 3) := by decide +kernel
theorem dX12_goesOn_303 : decode cX12_goesOn 303 = .ok (.invokevirtual 316, 3) := by decide +kernel
theorem dX12_goesOn_306 : decode cX12_goesOn 306 = .ok (.ifCond .eq 94, 3) := by decide +kernel
theorem dX12_goesOn_309 : decode cX12_goesOn 309 = .ok (.aload_n 0, 1) := by decide +kernel
theorem dX12_goesOn_310 : decode cX12_goesOn 310 = .ok (.getfield 125, 3) := by decide +kernel
theorem dX12_goesOn_313 : decode cX12_goesOn 313 = .ok (.iload_n 1, 1) := by decide +kernel
theorem dX12_goesOn_314 : decode cX12_goesOn 314 = .ok (.iaload, 1) := by decide +kernel
theorem dX12_goesOn_315 : decode cX12_goesOn 315 = .ok (.ifCond .ne 12, 3) := by decide +kernel
theorem dX12_goesOn_318 : decode cX12_goesOn 318 = .ok (.aload_n 0, 1) := by decide +kernel
theorem dX12_goesOn_319 : decode cX12_goesOn 319 = .ok (.iconst 1, 1) := by decide +kernel
theorem dX12_goesOn_320 : decode cX12_goesOn 320 = .ok (.aload_n 0, 1) := by decide +kernel
theorem dX12_goesOn_321 : decode cX12_goesOn 321 = .ok (.getfield 23, 3) := by decide +kernel
theorem dX12_goesOn_324 : decode cX12_goesOn 324 = .ok (.invokevirtual 224, 3) := by decide +kernel
theorem dX12_goesOn_327 : decode cX12_goesOn 327 = .ok (.aload_n 0, 1) := by decide +kernel
theorem dX12_goesOn_328 : decode cX12_goesOn 328 = .ok (.getfield 36, 3) := by decide +kernel
theorem dX12_goesOn_331 : decode cX12_goesOn 331 = .ok (.ifCond .le 5, 3) := by decide +kernel
theorem dX12_goesOn_334 : decode cX12_goesOn 334 = .ok (.iconst 0, 1) := by decide +kernel
theorem dX12_goesOn_335 : decode cX12_goesOn 335 = .ok (.ireturn, 1) := by decide +kernel
theorem dX12_goesOn_336 : decode cX12_goesOn 336 = .ok (.aload_n 0, 1) := by decide +kernel
theorem dX12_goesOn_337 : decode cX12_goesOn 337 = .ok (.ldc2_w 282, 3) := by decide +kernel
theorem dX12_goesOn_340 : decode cX12_goesOn 340 = .ok (.invokevirtual 316, 3) := by decide +kernel
theorem dX12_goesOn_343 : decode cX12_goesOn 343 = .ok (.istore 4, 2) := by decide +kernel
theorem dX12_goesOn_345 : decode cX12_goesOn 345 = .ok (.aload_n 0, 1) := by decide +kernel
theorem dX12_goesOn_346 : decode cX12_goesOn 346 = .ok (.iload 4, 2) := by decide +kernel
theorem dX12_goesOn_348 : decode cX12_goesOn 348 = .ok (.ifCond .eq 7, 3) := by decide +kernel
theorem dX12_goesOn_351 : decode cX12_goesOn 351 = .ok (.iconst 2, 1) := by decide +kernel
theorem dX12_goesOn_352 : decode cX12_goesOn 352 = .ok (.goto 4, 3) := by decide +kernel
theorem dX12_goesOn_355 : decode cX12_goesOn 355 = .ok (.iconst 1, 1) := by decide +kernel
theorem dX12_goesOn_356 : decode cX12_goesOn 356 = .ok (.invokevirtual 326, 3) := by decide +kernel
theorem dX12_goesOn_359 : decode cX12_goesOn 359 = .ok (.aload_n 0, 1) := by decide +kernel
theorem dX12_goesOn_360 : decode cX12_goesOn 360 = .ok (.iload 4, 2) := by decide +kernel
theorem dX12_goesOn_362 : decode cX12_goesOn 362 = .ok (.ifCond .eq 8, 3) := by decide +kernel
theorem dX12_goesOn_365 : decode cX12_goesOn 365 = .ok (.bipush 41, 2) := by decide +kernel
theorem dX12_goesOn_367 : decode cX12_goesOn 367 = .ok (.goto 5, 3) := by decide +kernel
theorem dX12_goesOn_370 : decode cX12_goesOn 370 = .ok (.bipush 42, 2) := by decide +kernel
theorem dX12_goesOn_372 : decode cX12_goesOn 372 = .ok (.invokevirtual 320, 3) := by decide +kernel
theorem dX12_goesOn_375 : decode cX12_goesOn 375 = .ok (.aload_n 0, 1) := by decide +kernel
theorem dX12_goesOn_376 : decode cX12_goesOn 376 = .ok (.getfield 125, 3) := by decide +kernel
theorem dX12_goesOn_379 : decode cX12_goesOn 379 = .ok (.iload_n 1, 1) := by decide +kernel
theorem dX12_goesOn_380 : decode cX12_goesOn 380 = .ok (.iconst 0, 1) := by decide +kernel
theorem dX12_goesOn_381 : decode cX12_goesOn 381 = .ok (.iastore, 1) := by decide +kernel
theorem dX12_goesOn_382 : decode cX12_goesOn 382 = .ok (.aload_n 0, 1) := by decide +kernel
theorem dX12_goesOn_383 : decode cX12_goesOn 383 = .ok (.getfield 128, 3) := by decide +kernel
theorem dX12_goesOn_386 : decode cX12_goesOn 386 = .ok (.iload_n 1, 1) := by decide +kernel
theorem dX12_goesOn_387 : decode cX12_goesOn 387 = .ok (.iconst 1, 1) := by decide +kernel
theorem dX12_goesOn_388 : decode cX12_goesOn 388 = .ok (.bastore, 1) := by decide +kernel
theorem dX12_goesOn_389 : decode cX12_goesOn 389 = .ok (.aload_n 0, 1) := by decide +kernel
theorem dX12_goesOn_390 : decode cX12_goesOn 390 = .ok (.invokevirtual 241, 3) := by decide +kernel
theorem dX12_goesOn_393 : decode cX12_goesOn 393 = .ok (.aload_n 0, 1) := by decide +kernel
theorem dX12_goesOn_394 : decode cX12_goesOn 394 = .ok (.iconst 0, 1) := by decide +kernel
theorem dX12_goesOn_395 : decode cX12_goesOn 395 = .ok (.putfield 150, 3) := by decide +kernel
theorem dX12_goesOn_398 : decode cX12_goesOn 398 = .ok (.iconst 1, 1) := by decide +kernel
theorem dX12_goesOn_399 : decode cX12_goesOn 399 = .ok (.ireturn, 1) := by decide +kernel
theorem dX12_goesOn_400 : decode cX12_goesOn 400 = .ok (.iload_n 3, 1) := by decide +kernel
theorem dX12_goesOn_401 : decode cX12_goesOn 401 = .ok (.ifCond .eq 21, 3) := by decide +kernel
theorem dX12_goesOn_404 : decode cX12_goesOn 404 = .ok (.aload_n 0, 1) := by decide +kernel
theorem dX12_goesOn_405 : decode cX12_goesOn 405 = .ok (.getfield 125, 3) := by decide +kernel
theorem dX12_goesOn_408 : decode cX12_goesOn 408 = .ok (.iload_n 1, 1) := by decide +kernel
theorem dX12_goesOn_409 : decode cX12_goesOn 409 = .ok (.iaload, 1) := by decide +kernel
theorem dX12_goesOn_410 : decode cX12_goesOn 410 = .ok (.ifCond .ne 12, 3) := by decide +kernel
theorem dX12_goesOn_413 : decode cX12_goesOn 413 = .ok (.aload_n 0, 1) := by decide +kernel
theorem dX12_goesOn_414 : decode cX12_goesOn 414 = .ok (.iconst 1, 1) := by decide +kernel
theorem dX12_goesOn_415 : decode cX12_goesOn 415 = .ok (.aload_n 0, 1) := by decide +kernel
theorem dX12_goesOn_416 : decode cX12_goesOn 416 = .ok (.getfield 23, 3) := by decide +kernel
theorem dX12_goesOn_419 : decode cX12_goesOn 419 = .ok (.invokevirtual 224, 3) := by decide +kernel
theorem dX12_goesOn_422 : decode cX12_goesOn 422 = .ok (.iload_n 2, 1) := by decide +kernel
theorem dX12_goesOn_423 : decode cX12_goesOn 423 = .ok (.iconst 2, 1) := by decide +kernel
theorem dX12_goesOn_424 : decode cX12_goesOn 424 = .ok (.if_icmp .ge 17, 3) := by decide +kernel
theorem dX12_goesOn_427 : decode cX12_goesOn 427 = .ok (.aload_n 0, 1) := by decide +kernel
theorem dX12_goesOn_428 : decode cX12_goesOn 428 = .ok (.getfield 36, 3) := by decide +kernel
theorem dX12_goesOn_431 : decode cX12_goesOn 431 = .ok (.ifCond .ne 8, 3) := by decide +kernel
theorem dX12_goesOn_434 : decode cX12_goesOn 434 = .ok (.aload_n 0, 1) := by decide +kernel
theorem dX12_goesOn_435 : decode cX12_goesOn 435 = .ok (.iconst 1, 1) := by decide +kernel
theorem dX12_goesOn_436 : decode cX12_goesOn 436 = .ok (.invokevirtual 326, 3) := by decide +kernel
theorem dX12_goesOn_439 : decode cX12_goesOn 439 = .ok (.iconst 0, 1) := by decide +kernel
theorem dX12_goesOn_440 : decode cX12_goesOn 440 = .ok (.ireturn, 1) := by decide +kernel
theorem dX12_goesOn_441 : decode cX12_goesOn 441 = .ok (.iload_n 2, 1) := by decide +kernel
theorem dX12_goesOn_442 : decode cX12_goesOn 442 = .ok (.iconst 3, 1) := by decide +kernel
theorem dX12_goesOn_443 : decode cX12_goesOn 443 = .ok (.if_icmp .eq 9, 3) := by decide +kernel
theorem dX12_goesOn_446 : decode cX12_goesOn 446 = .ok (.iload_n 2, 1) := by decide +kernel
theorem dX12_goesOn_447 : decode cX12_goesOn 447 = .ok (.bipush 6, 2) := by decide +kernel
theorem dX12_goesOn_449 : decode cX12_goesOn 449 = .ok (.if_icmp .ne 69, 3) := by decide +kernel
theorem dX12_goesOn_452 : decode cX12_goesOn 452 = .ok (.aload_n 0, 1) := by decide +kernel
theorem dX12_goesOn_453 : decode cX12_goesOn 453 = .ok (.bipush 44, 2) := by decide +kernel
theorem dX12_goesOn_455 : decode cX12_goesOn 455 = .ok (.invokevirtual 238, 3) := by decide +kernel
theorem dX12_goesOn_458 : decode cX12_goesOn 458 = .ok (.ifCond .ne 12, 3) := by decide +kernel
theorem dX12_goesOn_461 : decode cX12_goesOn 461 = .ok (.aload_n 0, 1) := by decide +kernel
theorem dX12_goesOn_462 : decode cX12_goesOn 462 = .ok (.iconst 1, 1) := by decide +kernel
theorem dX12_goesOn_463 : decode cX12_goesOn 463 = .ok (.aload_n 0, 1) := by decide +kernel
theorem dX12_goesOn_464 : decode cX12_goesOn 464 = .ok (.getfield 23, 3) := by decide +kernel
theorem dX12_goesOn_467 : decode cX12_goesOn 467 = .ok (.invokevirtual 224, 3) := by decide +kernel
theorem dX12_goesOn_470 : decode cX12_goesOn 470 = .ok (.aload_n 0, 1) := by decide +kernel
theorem dX12_goesOn_471 : decode cX12_goesOn 471 = .ok (.getfield 36, 3) := by decide +kernel
theorem dX12_goesOn_474 : decode cX12_goesOn 474 = .ok (.ifCond .le 5, 3) := by decide +kernel
theorem dX12_goesOn_477 : decode cX12_goesOn 477 = .ok (.iconst 0, 1) := by decide +kernel
theorem dX12_goesOn_478 : decode cX12_goesOn 478 = .ok (.ireturn, 1) := by decide +kernel
theorem dX12_goesOn_479 : decode cX12_goesOn 479 = .ok (.aload_n 0, 1) := by decide +kernel
theorem dX12_goesOn_480 : decode cX12_goesOn 480 = .ok (.iconst 1, 1) := by decide +kernel
theorem dX12_goesOn_481 : decode cX12_goesOn 481 = .ok (.invokevirtual 326, 3) := by decide +kernel
theorem dX12_goesOn_484 : decode cX12_goesOn 484 = .ok (.aload_n 0, 1) := by decide +kernel
theorem dX12_goesOn_485 : decode cX12_goesOn 485 = .ok (.getfield 122, 3) := by decide +kernel
theorem dX12_goesOn_488 : decode cX12_goesOn 488 = .ok (.iload_n 1, 1) := by decide +kernel
theorem dX12_goesOn_489 : decode cX12_goesOn 489 = .ok (.iload_n 2, 1) := by decide +kernel
theorem dX12_goesOn_490 : decode cX12_goesOn 490 = .ok (.iconst 3, 1) := by decide +kernel
theorem dX12_goesOn_491 : decode cX12_goesOn 491 = .ok (.if_icmp .ne 7, 3) := by decide +kernel
theorem dX12_goesOn_494 : decode cX12_goesOn 494 = .ok (.iconst 4, 1) := by decide +kernel
theorem dX12_goesOn_495 : decode cX12_goesOn 495 = .ok (.goto 4, 3) := by decide +kernel
theorem dX12_goesOn_498 : decode cX12_goesOn 498 = .ok (.iconst 3, 1) := by decide +kernel
theorem dX12_goesOn_499 : decode cX12_goesOn 499 = .ok (.iastore, 1) := by decide +kernel
theorem dX12_goesOn_500 : decode cX12_goesOn 500 = .ok (.aload_n 0, 1) := by decide +kernel
theorem dX12_goesOn_501 : decode cX12_goesOn 501 = .ok (.getfield 125, 3) := by decide +kernel
theorem dX12_goesOn_504 : decode cX12_goesOn 504 = .ok (.iload_n 1, 1) := by decide +kernel
theorem dX12_goesOn_505 : decode cX12_goesOn 505 = .ok (.iconst 0, 1) := by decide +kernel
theorem dX12_goesOn_506 : decode cX12_goesOn 506 = .ok (.iastore, 1) := by decide +kernel
theorem dX12_goesOn_507 : decode cX12_goesOn 507 = .ok (.aload_n 0, 1) := by decide +kernel
theorem dX12_goesOn_508 : decode cX12_goesOn 508 = .ok (.invokevirtual 241, 3) := by decide +kernel
theorem dX12_goesOn_511 : decode cX12_goesOn 511 = .ok (.aload_n 0, 1) := by decide +kernel
theorem dX12_goesOn_512 : decode cX12_goesOn 512 = .ok (.iconst 0, 1) := by decide +kernel
theorem dX12_goesOn_513 : decode cX12_goesOn 513 = .ok (.putfield 150, 3) := by decide +kernel
theorem dX12_goesOn_516 : decode cX12_goesOn 516 = .ok (.iconst 1, 1) := by decide +kernel
theorem dX12_goesOn_517 : decode cX12_goesOn 517 = .ok (.ireturn, 1) := by decide +kernel
theorem dX12_goesOn_518 : decode cX12_goesOn 518 = .ok (.aload_n 0, 1) := by decide +kernel
theorem dX12_goesOn_519 : decode cX12_goesOn 519 = .ok (.iload_n 2, 1) := by decide +kernel
theorem dX12_goesOn_520 : decode cX12_goesOn 520 = .ok (.iconst 5, 1) := by decide +kernel
theorem dX12_goesOn_521 : decode cX12_goesOn 521 = .ok (.if_icmp .ne 8, 3) := by decide +kernel
theorem dX12_goesOn_524 : decode cX12_goesOn 524 = .ok (.bipush 93, 2) := by decide +kernel
theorem dX12_goesOn_526 : decode cX12_goesOn 526 = .ok (.goto 5, 3) := by decide +kernel
theorem dX12_goesOn_529 : decode cX12_goesOn 529 = .ok (.bipush 41, 2) := by decide +kernel
theorem dX12_goesOn_531 : decode cX12_goesOn 531 = .ok (.invokevirtual 238, 3) := by decide +kernel
theorem dX12_goesOn_534 : decode cX12_goesOn 534 = .ok (.ifCond .ne 12, 3) := by decide +kernel
theorem dX12_goesOn_537 : decode cX12_goesOn 537 = .ok (.aload_n 0, 1) := by decide +kernel
theorem dX12_goesOn_538 : decode cX12_goesOn 538 = .ok (.iconst 1, 1) := by decide +kernel
theorem dX12_goesOn_539 : decode cX12_goesOn 539 = .ok (.aload_n 0, 1) := by decide +kernel
theorem dX12_goesOn_540 : decode cX12_goesOn 540 = .ok (.getfield 23, 3) := by decide +kernel
theorem dX12_goesOn_543 : decode cX12_goesOn 543 = .ok (.invokevirtual 224, 3) := by decide +kernel
theorem dX12_goesOn_546 : decode cX12_goesOn 546 = .ok (.aload_n 0, 1) := by decide +kernel
theorem dX12_goesOn_547 : decode cX12_goesOn 547 = .ok (.getfield 36, 3) := by decide +kernel
theorem dX12_goesOn_550 : decode cX12_goesOn 550 = .ok (.ifCond .le 5, 3) := by decide +kernel
theorem dX12_goesOn_553 : decode cX12_goesOn 553 = .ok (.iconst 0, 1) := by decide +kernel
theorem dX12_goesOn_554 : decode cX12_goesOn 554 = .ok (.ireturn, 1) := by decide +kernel
theorem dX12_goesOn_555 : decode cX12_goesOn 555 = .ok (.aload_n 0, 1) := by decide +kernel
theorem dX12_goesOn_556 : decode cX12_goesOn 556 = .ok (.iconst 1, 1) := by decide +kernel
theorem dX12_goesOn_557 : decode cX12_goesOn 557 = .ok (.invokevirtual 326, 3) := by decide +kernel
theorem dX12_goesOn_560 : decode cX12_goesOn 560 = .ok (.aload_n 0, 1) := by decide +kernel
theorem dX12_goesOn_561 : decode cX12_goesOn 561 = .ok (.dup, 1) := by decide +kernel
theorem dX12_goesOn_562 : decode cX12_goesOn 562 = .ok (.getfield 138, 3) := by decide +kernel
theorem dX12_goesOn_565 : decode cX12_goesOn 565 = .ok (.iconst 1, 1) := by decide +kernel
theorem dX12_goesOn_566 : decode cX12_goesOn 566 = .ok (.isub, 1) := by decide +kernel
theorem dX12_goesOn_567 : decode cX12_goesOn 567 = .ok (.putfield 138, 3) := by decide +kernel
theorem dX12_goesOn_570 : decode cX12_goesOn 570 = .ok (.aload_n 0, 1) := by decide +kernel
theorem dX12_goesOn_571 : decode cX12_goesOn 571 = .ok (.dup, 1) := by decide +kernel
theorem dX12_goesOn_572 : decode cX12_goesOn 572 = .ok (.getfield 141, 3) := by decide +kernel
theorem dX12_goesOn_575 : decode cX12_goesOn 575 = .ok (.iconst 1, 1) := by decide +kernel
theorem dX12_goesOn_576 : decode cX12_goesOn 576 = .ok (.isub, 1) := by decide +kernel
theorem dX12_goesOn_577 : decode cX12_goesOn 577 = .ok (.putfield 141, 3) := by decide +kernel
theorem dX12_goesOn_580 : decode cX12_goesOn 580 = .ok (.iload_n 2, 1) := by decide +kernel
theorem dX12_goesOn_581 : decode cX12_goesOn 581 = .ok (.iconst 4, 1) := by decide +kernel
theorem dX12_goesOn_582 : decode cX12_goesOn 582 = .ok (.if_icmp .ne 14, 3) := by decide +kernel
theorem dX12_goesOn_585 : decode cX12_goesOn 585 = .ok (.aload_n 0, 1) := by decide +kernel
theorem dX12_goesOn_586 : decode cX12_goesOn 586 = .ok (.aload_n 0, 1) := by decide +kernel
theorem dX12_goesOn_587 : decode cX12_goesOn 587 = .ok (.getfield 132, 3) := by decide +kernel
theorem dX12_goesOn_590 : decode cX12_goesOn 590 = .ok (.iload_n 1, 1) := by decide +kernel
theorem dX12_goesOn_591 : decode cX12_goesOn 591 = .ok (.iaload, 1) := by decide +kernel
theorem dX12_goesOn_592 : decode cX12_goesOn 592 = .ok (.iconst 0, 1) := by decide +kernel
theorem dX12_goesOn_593 : decode cX12_goesOn 593 = .ok (.invokevirtual 307, 3) := by decide +kernel
theorem dX12_goesOn_596 : decode cX12_goesOn 596 = .ok (.iload_n 2, 1) := by decide +kernel
theorem dX12_goesOn_597 : decode cX12_goesOn 597 = .ok (.iconst 5, 1) := by decide +kernel
theorem dX12_goesOn_598 : decode cX12_goesOn 598 = .ok (.if_icmp .ne 15, 3) := by decide +kernel
theorem dX12_goesOn_601 : decode cX12_goesOn 601 = .ok (.aload_n 0, 1) := by decide +kernel
theorem dX12_goesOn_602 : decode cX12_goesOn 602 = .ok (.getfield 125, 3) := by decide +kernel
theorem dX12_goesOn_605 : decode cX12_goesOn 605 = .ok (.aload_n 0, 1) := by decide +kernel
theorem dX12_goesOn_606 : decode cX12_goesOn 606 = .ok (.getfield 138, 3) := by decide +kernel
theorem dX12_goesOn_609 : decode cX12_goesOn 609 = .ok (.iconst 1, 1) := by decide +kernel
theorem dX12_goesOn_610 : decode cX12_goesOn 610 = .ok (.isub, 1) := by decide +kernel
theorem dX12_goesOn_611 : decode cX12_goesOn 611 = .ok (.iconst 2, 1) := by decide +kernel
theorem dX12_goesOn_612 : decode cX12_goesOn 612 = .ok (.iastore, 1) := by decide +kernel
theorem dX12_goesOn_613 : decode cX12_goesOn 613 = .ok (.aload_n 0, 1) := by decide +kernel
theorem dX12_goesOn_614 : decode cX12_goesOn 614 = .ok (.invokevirtual 241, 3) := by decide +kernel
theorem dX12_goesOn_617 : decode cX12_goesOn 617 = .ok (.iconst 1, 1) := by decide +kernel
theorem dX12_goesOn_618 : decode cX12_goesOn 618 = .ok (.ireturn, 1) := by decide +kernel
set_option maxRecDepth 20000 in
theorem w_X12_manyOf_J19 {Y : YT} {X : CX} (C : Cx Y X cX12_manyOf 3 RX12 1) {Q : Int → Mem → Prop} (hR : Rt Y X (some .int) (PQi Y Q)) {s0 : Int}  {M : Mem}  (h : m_X12_manyOf_J19  Q s0 M) : G Y X 3 19 [] ((vI s0) :: []) M := by
  unfold m_X12_manyOf_J19 at h
  exact g_reti C hR dX12_manyOf_19 h
set_option maxRecDepth 20000 in
theorem t_X12_manyOf {l : Launch} {Y : YT} (hY : YOK Y) {a0 : Int} {a1 : Int} {M : Mem} {Q : Int → Mem → Prop} (h : m_X12_manyOf a0 a1 M Q) : Ctr l Y yX12_manyOf cX12_manyOf 3 (some .int) 1 [vR Y 199, vI a0, vI a1] M (PQi Y Q) := by
  unfold m_X12_manyOf at h
  refine ctr_ofF hY (by decide +kernel) (Nat.le_of_ble_eq_true rfl) [(0, vR Y 199), (1, vI a0), (2, vI a1)] rfl (fun X hX C hR => ?_)
  refine g_iload_n (q := 2) C dX12_manyOf_0 rfl rfl ?_
  obtain ⟨g1, h⟩ := h
  obtain ⟨ht, hf⟩ := h
  refine g_if_ne (tgt := 13) C dX12_manyOf_1 (by decide) g1 (fun c => ?_) (fun c => ?_)
  · have h := hf c
    refine g_aload_n (q := 0) C dX12_manyOf_13 rfl rfl ?_
    refine g_getS (v := 205) C fX12_66 dX12_manyOf_14 kd_199 rfl ?_
    refine g_iload_n (q := 1) C dX12_manyOf_17 rfl rfl ?_
    obtain ⟨g2, h⟩ := h
    refine g_iald C dX12_manyOf_18 kd_205 ln_205 g2 ?_
    refine G.sub [] rfl ?_
    exact w_X12_manyOf_J19 C hR  h
  · have h := ht c
    refine g_aload_n (q := 0) C dX12_manyOf_4 rfl rfl ?_
    refine g_getS (v := 201) C fX12_54 dX12_manyOf_5 kd_199 rfl ?_
    refine g_iload_n (q := 1) C dX12_manyOf_8 rfl rfl ?_
    obtain ⟨g3, h⟩ := h
    refine g_iald C dX12_manyOf_9 kd_201 ln_201 g3 ?_
    refine g_goto (tgt := 19) C dX12_manyOf_10 (by decide) ?_
    refine G.sub [] rfl ?_
    exact w_X12_manyOf_J19 C hR  h
set_option maxRecDepth 20000 in
theorem w_X12_nameOf_J29 {Y : YT} {X : CX} (C : Cx Y X cX12_nameOf 4 RX12 1) {Q : Int → Mem → Prop} (hR : Rt Y X (some .long) (PQl Y Q)) {s0 : Int}  {M : Mem}  (h : m_X12_nameOf_J29  Q s0 M) : G Y X 4 29 [] ((vL s0) :: []) M := by
  unfold m_X12_nameOf_J29 at h
  exact g_retl C hR dX12_nameOf_29 h
set_option maxRecDepth 20000 in
theorem t_X12_nameOf {l : Launch} {Y : YT} (hY : YOK Y) {a0 : Int} {a1 : Int} {a2 : Int} {M : Mem} {Q : Int → Mem → Prop} (h : m_X12_nameOf a0 a1 a2 M Q) : Ctr l Y yX12_nameOf cX12_nameOf 4 (some .long) 1 [vR Y 199, vI a0, vI a1, vI a2] M (PQl Y Q) := by
  unfold m_X12_nameOf at h
  refine ctr_ofF hY (by decide +kernel) (Nat.le_of_ble_eq_true rfl) [(0, vR Y 199), (1, vI a0), (2, vI a1), (3, vI a2)] rfl (fun X hX C hR => ?_)
  refine g_iload_n (q := 2) C dX12_nameOf_0 rfl rfl ?_
  obtain ⟨g1, h⟩ := h
  obtain ⟨ht, hf⟩ := h
  refine g_if_ne (tgt := 18) C dX12_nameOf_1 (by decide) g1 (fun c => ?_) (fun c => ?_)
  · have h := hf c
    refine g_aload_n (q := 0) C dX12_nameOf_18 rfl rfl ?_
    refine g_getS (v := 219) C fX12_109 dX12_nameOf_19 kd_199 rfl ?_
    refine g_bipush (v := 6) C dX12_nameOf_22 (by decide +kernel) ?_
    refine g_iload_n (q := 1) C dX12_nameOf_24 rfl rfl ?_
    refine g_imul C dX12_nameOf_25 ?_
    refine g_iload_n (q := 3) C dX12_nameOf_26 rfl rfl ?_
    refine g_iadd C dX12_nameOf_27 ?_
    obtain ⟨g2, h⟩ := h
    refine g_lald C dX12_nameOf_28 kd_219 ln_219 g2 ?_
    refine G.sub [] rfl ?_
    exact w_X12_nameOf_J29 C hR  h
  · have h := ht c
    refine g_aload_n (q := 0) C dX12_nameOf_4 rfl rfl ?_
    refine g_getS (v := 218) C fX12_105 dX12_nameOf_5 kd_199 rfl ?_
    refine g_bipush (v := 7) C dX12_nameOf_8 (by decide +kernel) ?_
    refine g_iload_n (q := 1) C dX12_nameOf_10 rfl rfl ?_
    refine g_imul C dX12_nameOf_11 ?_
    refine g_iload_n (q := 3) C dX12_nameOf_12 rfl rfl ?_
    refine g_iadd C dX12_nameOf_13 ?_
    obtain ⟨g3, h⟩ := h
    refine g_lald C dX12_nameOf_14 kd_218 ln_218 g3 ?_
    refine g_goto (tgt := 29) C dX12_nameOf_15 (by decide) ?_
    refine G.sub [] rfl ?_
    exact w_X12_nameOf_J29 C hR  h
set_option maxRecDepth 20000 in
theorem w_X12_named_L3 {Y : YT} {X : CX} (C : Cx Y X cX12_named 5 RX12 2) {Q : Int → Mem → Prop} (hR : Rt Y X (some .int) (PQi Y Q)) {v1 : Int} {v2 : Int}  : ∀ (f : Nat) (v4 : Int) (M : Mem), m_X12_named_L3  Q v1 v2 f v4 M → G Y X 5 3 [(0, vR Y 199), (1, vI v1), (2, vL v2), (4, vI v4)] ([]) M := by
  intro f
  induction f with
  | zero =>
    intro v4 M h
    exact (show False from h).elim
  | succ f ih =>
    intro v4 M h
    unfold m_X12_named_L3 at h
    refine g_iload (q := 3) C dX12_named_3 rfl ?_
    refine g_aload_n (q := 0) C dX12_named_5 rfl rfl ?_
    refine g_aload_n (q := 0) C dX12_named_6 rfl rfl ?_
    refine g_getI C fX12_115 (by decide) dX12_named_7 kd_199 ?_
    refine g_iload_n (q := 1) C dX12_named_10 rfl rfl ?_
    refine g_cVi (As := [vI (M 199 34), vI v1]) C clX12_292 clvX12_manyOf dX12_named_11 kd_199 rfl (Nat.le_of_ble_eq_true rfl) rfl (by decide) (t_X12_manyOf (Cx.ok C) h) (fun r2 M1 h => ?_)
    obtain ⟨g3, h⟩ := h
    obtain ⟨g4, h⟩ := h
    obtain ⟨ht, hf⟩ := h
    refine g_icmp_ge (tgt := 42) C dX12_named_14 (by decide) g3 g4 (fun c => ?_) (fun c => ?_)
    · have h := ht c
      refine g_iconst C dX12_named_42 rfl ?_
      exact g_reti C hR dX12_named_43 h
    · have h := hf c
      refine g_aload_n (q := 0) C dX12_named_17 rfl rfl ?_
      refine g_aload_n (q := 0) C dX12_named_18 rfl rfl ?_
      refine g_getI C fX12_115 (by decide) dX12_named_19 kd_199 ?_
      refine g_iload_n (q := 1) C dX12_named_22 rfl rfl ?_
      refine g_iload (q := 3) C dX12_named_23 rfl ?_
      refine g_cVl (As := [vI (M1 199 34), vI v1, vI v4]) C clX12_296 clvX12_nameOf dX12_named_25 kd_199 rfl (Nat.le_of_ble_eq_true rfl) rfl (by decide) (t_X12_nameOf (Cx.ok C) h) (fun r6 M5 h => ?_)
      refine g_lload_n (q := 2) C dX12_named_28 rfl rfl ?_
      obtain ⟨g7, h⟩ := h
      obtain ⟨g8, h⟩ := h
      obtain ⟨ht, hf⟩ := h
      refine g_lcmp_ne (tgt := 36) C dX12_named_29 dX12_named_30 (by decide) g7 g8 (fun c => ?_) (fun c => ?_)
      · have h := hf c
        refine g_iinc (q := 3) (v := v4 + 1) (lv' := [(4, vI (v4 + 1)), (0, vR Y 199), (1, vI v1), (2, vL v2)]) C dX12_named_36 rfl rfl (by decide) rfl ?_
        refine g_goto (tgt := 3) C dX12_named_39 (by decide) ?_
        refine G.sub [1, 2, 3, 0] rfl ?_
        exact ih _ _ h
      · have h := ht c
        refine g_iload (q := 3) C dX12_named_33 rfl ?_
        exact g_reti C hR dX12_named_35 h
set_option maxRecDepth 20000 in
theorem t_X12_named {l : Launch} {Y : YT} (hY : YOK Y) {a0 : Int} {a1 : Int} {M : Mem} {Q : Int → Mem → Prop} (h : m_X12_named a0 a1 M Q) : Ctr l Y yX12_named cX12_named 5 (some .int) 2 [vR Y 199, vI a0, vL a1] M (PQi Y Q) := by
  unfold m_X12_named at h
  refine ctr_ofF hY (by decide +kernel) (Nat.le_of_ble_eq_true rfl) [(0, vR Y 199), (1, vI a0), (2, vL a1)] rfl (fun X hX C hR => ?_)
  refine g_iconst C dX12_named_0 rfl ?_
  refine g_istore (lv' := [(4, vI 0), (0, vR Y 199), (1, vI a0), (2, vL a1)]) C dX12_named_1 (by decide) rfl ?_
  obtain ⟨f0, h⟩ := h
  refine G.sub [1, 2, 3, 0] rfl ?_
  exact w_X12_named_L3 C hR  f0 _ _ h
set_option maxRecDepth 20000 in
theorem w_X12_number_J74 {Y : YT} {X : CX} (C : Cx Y X cX12_number 4 RX12 3) {Q : Int → Mem → Prop} (hR : Rt Y X (some .int) (PQi Y Q)) {v3 : Int}  {M : Mem}  (h : m_X12_number_J74  Q v3 M) : G Y X 4 74 [(3, vI v3)] ([]) M := by
  unfold m_X12_number_J74 at h
  refine g_iload_n (q := 0) C dX12_number_74 rfl rfl ?_
  exact g_reti C hR dX12_number_75 h
set_option maxRecDepth 20000 in
theorem w_X12_number_J58 {Y : YT} {X : CX} (C : Cx Y X cX12_number 4 RX12 3) {Q : Int → Mem → Prop} (hR : Rt Y X (some .int) (PQi Y Q))   {M : Mem}  (h : m_X12_number_J58  Q  M) : G Y X 4 58 [(0, vR Y 199)] ([]) M := by
  unfold m_X12_number_J58 at h
  refine g_aload_n (q := 0) C dX12_number_58 rfl rfl ?_
  refine g_getI C fX12_29 (by decide) dX12_number_59 kd_199 ?_
  refine g_istore_n (lv' := [(3, vI (M 199 6)), (0, vR Y 199)]) C dX12_number_62 rfl (by decide) rfl ?_
  refine g_aload_n (q := 1) C dX12_number_63 rfl rfl ?_
  refine g_getI C fX12_36 (by decide) dX12_number_64 kd_199 ?_
  obtain ⟨g1, h⟩ := h
  obtain ⟨ht, hf⟩ := h
  refine g_if_ne (tgt := 74) C dX12_number_67 (by decide) g1 (fun c => ?_) (fun c => ?_)
  · have h := hf c
    refine G.sub [0] rfl ?_
    exact w_X12_number_J74 C hR  h
  · have h := ht c
    refine g_aload_n (q := 1) C dX12_number_70 rfl rfl ?_
    refine g_cVv (As := []) C clX12_241 clvX12_ahead dX12_number_71 kd_199 rfl (Nat.le_of_ble_eq_true rfl) rfl (by decide) (t_X12_ahead (Cx.ok C) h) (fun M2 h => ?_)
    refine G.sub [0] rfl ?_
    exact w_X12_number_J74 C hR  h
set_option maxRecDepth 20000 in
theorem w_X12_number_J30 {Y : YT} {X : CX} (C : Cx Y X cX12_number 4 RX12 3) {Q : Int → Mem → Prop} (hR : Rt Y X (some .int) (PQi Y Q)) {v1 : Int} {v2 : Int}  {M : Mem}  (h : m_X12_number_J30  Q v1 v2 M) : G Y X 4 30 [(0, vR Y 199), (1, vI v1), (2, vI v2)] ([]) M := by
  unfold m_X12_number_J30 at h
  refine g_aload_n (q := 0) C dX12_number_30 rfl rfl ?_
  refine g_getI C fX12_36 (by decide) dX12_number_31 kd_199 ?_
  obtain ⟨g3, h⟩ := h
  obtain ⟨ht, hf⟩ := h
  refine g_if_ne (tgt := 58) C dX12_number_34 (by decide) g3 (fun c => ?_) (fun c => ?_)
  · have h := hf c
    refine G.sub [0] rfl ?_
    exact w_X12_number_J58 C hR  h
  · have h := ht c
    refine g_aload_n (q := 0) C dX12_number_37 rfl rfl ?_
    refine g_getI C fX12_29 (by decide) dX12_number_38 kd_199 ?_
    refine g_iload_n (q := 1) C dX12_number_41 rfl rfl ?_
    refine g_iload_n (q := 2) C dX12_number_42 rfl rfl ?_
    refine g_cSi (As := [vI (M 199 6), vI v1, vI v2]) C clX12_300 clsX12_is dX12_number_43 rfl (Nat.le_of_ble_eq_true rfl) rfl (by decide) (t_X12_is (Cx.ok C) h) (fun r5 M4 h => ?_)
    obtain ⟨g6, h⟩ := h
    obtain ⟨ht, hf⟩ := h
    refine g_if_ne (tgt := 58) C dX12_number_46 (by decide) g6 (fun c => ?_) (fun c => ?_)
    · have h := hf c
      refine G.sub [0] rfl ?_
      exact w_X12_number_J58 C hR  h
    · have h := ht c
      refine g_aload_n (q := 0) C dX12_number_49 rfl rfl ?_
      refine g_iconst C dX12_number_50 rfl ?_
      refine g_aload_n (q := 0) C dX12_number_51 rfl rfl ?_
      refine g_getI C fX12_23 (by decide) dX12_number_52 kd_199 ?_
      refine g_cVv (As := [vI 4, vI (M4 199 4)]) C clX12_224 clvX12_blame dX12_number_55 kd_199 rfl (Nat.le_of_ble_eq_true rfl) rfl (by decide) (t_X12_blame (Cx.ok C) h) (fun M7 h => ?_)
      refine G.sub [0] rfl ?_
      exact w_X12_number_J58 C hR  h
set_option maxRecDepth 20000 in
theorem t_X12_number {l : Launch} {Y : YT} (hY : YOK Y) {a0 : Int} {a1 : Int} {M : Mem} {Q : Int → Mem → Prop} (h : m_X12_number a0 a1 M Q) : Ctr l Y yX12_number cX12_number 4 (some .int) 3 [vR Y 199, vI a0, vI a1] M (PQi Y Q) := by
  unfold m_X12_number at h
  refine ctr_ofF hY (by decide +kernel) (Nat.le_of_ble_eq_true rfl) [(0, vR Y 199), (1, vI a0), (2, vI a1)] rfl (fun X hX C hR => ?_)
  refine g_aload_n (q := 0) C dX12_number_0 rfl rfl ?_
  refine g_cVv (As := []) C clX12_235 clvX12_lex dX12_number_1 kd_199 rfl (Nat.le_of_ble_eq_true rfl) rfl (by decide) (t_X12_lex (Cx.ok C) h) (fun M8 h => ?_)
  refine g_aload_n (q := 0) C dX12_number_4 rfl rfl ?_
  refine g_getI C fX12_36 (by decide) dX12_number_5 kd_199 ?_
  obtain ⟨g9, h⟩ := h
  obtain ⟨ht, hf⟩ := h
  refine g_if_le (tgt := 13) C dX12_number_8 (by decide) g9 (fun c => ?_) (fun c => ?_)
  · have h := ht c
    refine g_aload_n (q := 0) C dX12_number_13 rfl rfl ?_
    refine g_getI C fX12_20 (by decide) dX12_number_14 kd_199 ?_
    refine g_iconst C dX12_number_17 rfl ?_
    obtain ⟨g10, h⟩ := h
    obtain ⟨ht, hf⟩ := h
    refine g_icmp_eq (tgt := 30) C dX12_number_18 (by decide) g10 (by decide) (fun c => ?_) (fun c => ?_)
    · have h := ht c
      refine G.sub [0, 1, 2] rfl ?_
      exact w_X12_number_J30 C hR  h
    · have h := hf c
      refine g_aload_n (q := 0) C dX12_number_21 rfl rfl ?_
      refine g_iconst C dX12_number_22 rfl ?_
      refine g_aload_n (q := 0) C dX12_number_23 rfl rfl ?_
      refine g_getI C fX12_23 (by decide) dX12_number_24 kd_199 ?_
      refine g_cVv (As := [vI 1, vI (M8 199 4)]) C clX12_224 clvX12_blame dX12_number_27 kd_199 rfl (Nat.le_of_ble_eq_true rfl) rfl (by decide) (t_X12_blame (Cx.ok C) h) (fun M11 h => ?_)
      refine G.sub [0, 1, 2] rfl ?_
      exact w_X12_number_J30 C hR  h
  · have h := hf c
    refine g_iconst C dX12_number_11 rfl ?_
    exact g_reti C hR dX12_number_12 h
set_option maxRecDepth 20000 in
theorem t_X12_add {l : Launch} {Y : YT} (hY : YOK Y) {a0 : Int} {a1 : Int} {M : Mem} {Q : Mem → Prop} (h : m_X12_add a0 a1 M Q) : Ctr l Y yX12_add cX12_add 3 none 1 [vR Y 199, vI a0, vI a1] M (PQv Y Q) := by
  unfold m_X12_add at h
  refine ctr_ofF hY (by decide +kernel) (Nat.le_of_ble_eq_true rfl) [(0, vR Y 199), (1, vI a0), (2, vI a1)] rfl (fun X hX C hR => ?_)
  refine g_aload_n (q := 0) C dX12_add_0 rfl rfl ?_
  refine g_getS (v := 216) C fX12_99 dX12_add_1 kd_199 rfl ?_
  refine g_sipush (v := 1600) C dX12_add_4 (by decide +kernel) ?_
  refine g_aload_n (q := 0) C dX12_add_7 rfl rfl ?_
  refine g_getI C fX12_115 (by decide) dX12_add_8 kd_199 ?_
  refine g_imul C dX12_add_11 ?_
  refine g_aload_n (q := 0) C dX12_add_12 rfl rfl ?_
  refine g_getI C fX12_112 (by decide) dX12_add_13 kd_199 ?_
  refine g_iadd C dX12_add_16 ?_
  refine g_iload_n (q := 1) C dX12_add_17 rfl rfl ?_
  obtain ⟨g1, h⟩ := h
  obtain ⟨M2, e_M2⟩ : ∃ z : Mem, z = up M 216 ((1600 * (M 199 34)) + (M 199 33)) a0 := ⟨_, rfl⟩
  have h := h M2 e_M2
  refine g_iast C dX12_add_18 kd_216 ln_216 g1 e_M2 ?_
  refine g_aload_n (q := 0) C dX12_add_19 rfl rfl ?_
  refine g_getS (v := 217) C fX12_102 dX12_add_20 kd_199 rfl ?_
  refine g_sipush (v := 1600) C dX12_add_23 (by decide +kernel) ?_
  refine g_aload_n (q := 0) C dX12_add_26 rfl rfl ?_
  refine g_getI C fX12_115 (by decide) dX12_add_27 kd_199 ?_
  refine g_imul C dX12_add_30 ?_
  refine g_aload_n (q := 0) C dX12_add_31 rfl rfl ?_
  refine g_getI C fX12_112 (by decide) dX12_add_32 kd_199 ?_
  refine g_iadd C dX12_add_35 ?_
  refine g_iload_n (q := 2) C dX12_add_36 rfl rfl ?_
  obtain ⟨g3, h⟩ := h
  obtain ⟨M4, e_M4⟩ : ∃ z : Mem, z = up M2 217 ((1600 * (M2 199 34)) + (M2 199 33)) a1 := ⟨_, rfl⟩
  have h := h M4 e_M4
  refine g_iast C dX12_add_37 kd_217 ln_217 g3 e_M4 ?_
  refine g_aload_n (q := 0) C dX12_add_38 rfl rfl ?_
  refine g_dup C dX12_add_39 rfl ?_
  refine g_getI C fX12_112 (by decide) dX12_add_40 kd_199 ?_
  refine g_iconst C dX12_add_43 rfl ?_
  refine g_iadd C dX12_add_44 ?_
  obtain ⟨M5, e_M5⟩ : ∃ z : Mem, z = up M4 199 33 ((M4 199 33) + 1) := ⟨_, rfl⟩
  have h := h M5 e_M5
  refine g_putI C fX12_112 pX12_112 dX12_add_45 kd_199 e_M5 ?_
  exact g_retv C hR dX12_add_48 h
set_option maxRecDepth 20000 in
theorem w_X12_rank_J70 {Y : YT} {X : CX} (C : Cx Y X cX12_rank 1 RX12 1) {Q : Int → Mem → Prop} (hR : Rt Y X (some .int) (PQi Y Q)) {s0 : Int}  {M : Mem}  (h : m_X12_rank_J70  Q s0 M) : G Y X 1 70 [] ((vI s0) :: []) M := by
  unfold m_X12_rank_J70 at h
  exact g_reti C hR dX12_rank_70 h
set_option maxRecDepth 20000 in
theorem w_X12_rank_J64 {Y : YT} {X : CX} (C : Cx Y X cX12_rank 1 RX12 1) {Q : Int → Mem → Prop} (hR : Rt Y X (some .int) (PQi Y Q))   {M : Mem}  (h : m_X12_rank_J64  Q  M) : G Y X 1 64 [] ([]) M := by
  unfold m_X12_rank_J64 at h
  refine g_iconst C dX12_rank_64 rfl ?_
  refine g_goto (tgt := 70) C dX12_rank_65 (by decide) ?_
  refine G.sub [] rfl ?_
  exact w_X12_rank_J70 C hR  h
set_option maxRecDepth 20000 in
theorem w_X12_rank_J48 {Y : YT} {X : CX} (C : Cx Y X cX12_rank 1 RX12 1) {Q : Int → Mem → Prop} (hR : Rt Y X (some .int) (PQi Y Q))   {M : Mem}  (h : m_X12_rank_J48  Q  M) : G Y X 1 48 [] ([]) M := by
  unfold m_X12_rank_J48 at h
  refine g_iconst C dX12_rank_48 rfl ?_
  refine g_goto (tgt := 70) C dX12_rank_49 (by decide) ?_
  refine G.sub [] rfl ?_
  exact w_X12_rank_J70 C hR  h
set_option maxRecDepth 20000 in
theorem t_X12_rank {l : Launch} {Y : YT} (hY : YOK Y) {a0 : Int} {M : Mem} {Q : Int → Mem → Prop} (h : m_X12_rank a0 M Q) : Ctr l Y yX12_rank cX12_rank 1 (some .int) 1 [vI a0] M (PQi Y Q) := by
  unfold m_X12_rank at h
  refine ctr_ofF hY (by decide +kernel) (Nat.le_of_ble_eq_true rfl) [(0, vI a0)] rfl (fun X hX C hR => ?_)
  refine g_iload_n (q := 0) C dX12_rank_0 rfl rfl ?_
  refine g_bipush (v := 42) C dX12_rank_1 (by decide +kernel) ?_
  obtain ⟨g1, h⟩ := h
  obtain ⟨ht, hf⟩ := h
  refine g_icmp_ne (tgt := 10) C dX12_rank_3 (by decide) g1 (by decide) (fun c => ?_) (fun c => ?_)
  · have h := hf c
    refine g_iload_n (q := 0) C dX12_rank_10 rfl rfl ?_
    refine g_bipush (v := 41) C dX12_rank_11 (by decide +kernel) ?_
    obtain ⟨g2, h⟩ := h
    obtain ⟨ht, hf⟩ := h
    refine g_icmp_ne (tgt := 20) C dX12_rank_13 (by decide) g2 (by decide) (fun c => ?_) (fun c => ?_)
    · have h := hf c
      refine g_iload_n (q := 0) C dX12_rank_20 rfl rfl ?_
      refine g_bipush (v := 43) C dX12_rank_21 (by decide +kernel) ?_
      obtain ⟨g3, h⟩ := h
      obtain ⟨ht, hf⟩ := h
      refine g_icmp_ne (tgt := 30) C dX12_rank_23 (by decide) g3 (by decide) (fun c => ?_) (fun c => ?_)
      · have h := hf c
        refine g_iload_n (q := 0) C dX12_rank_30 rfl rfl ?_
        refine g_bipush (v := 38) C dX12_rank_31 (by decide +kernel) ?_
        obtain ⟨g4, h⟩ := h
        obtain ⟨ht, hf⟩ := h
        refine g_icmp_eq (tgt := 48) C dX12_rank_33 (by decide) g4 (by decide) (fun c => ?_) (fun c => ?_)
        · have h := ht c
          refine G.sub [] rfl ?_
          exact w_X12_rank_J48 C hR  h
        · have h := hf c
          refine g_iload_n (q := 0) C dX12_rank_36 rfl rfl ?_
          refine g_bipush (v := 39) C dX12_rank_37 (by decide +kernel) ?_
          obtain ⟨g5, h⟩ := h
          obtain ⟨ht, hf⟩ := h
          refine g_icmp_eq (tgt := 48) C dX12_rank_39 (by decide) g5 (by decide) (fun c => ?_) (fun c => ?_)
          · have h := ht c
            refine G.sub [] rfl ?_
            exact w_X12_rank_J48 C hR  h
          · have h := hf c
            refine g_iload_n (q := 0) C dX12_rank_42 rfl rfl ?_
            refine g_bipush (v := 40) C dX12_rank_43 (by decide +kernel) ?_
            obtain ⟨g6, h⟩ := h
            obtain ⟨ht, hf⟩ := h
            refine g_icmp_ne (tgt := 52) C dX12_rank_45 (by decide) g6 (by decide) (fun c => ?_) (fun c => ?_)
            · have h := hf c
              refine g_iload_n (q := 0) C dX12_rank_52 rfl rfl ?_
              refine g_bipush (v := 31) C dX12_rank_53 (by decide +kernel) ?_
              obtain ⟨g7, h⟩ := h
              obtain ⟨ht, hf⟩ := h
              refine g_icmp_eq (tgt := 64) C dX12_rank_55 (by decide) g7 (by decide) (fun c => ?_) (fun c => ?_)
              · have h := ht c
                refine G.sub [] rfl ?_
                exact w_X12_rank_J64 C hR  h
              · have h := hf c
                refine g_iload_n (q := 0) C dX12_rank_58 rfl rfl ?_
                refine g_bipush (v := 32) C dX12_rank_59 (by decide +kernel) ?_
                obtain ⟨g8, h⟩ := h
                obtain ⟨ht, hf⟩ := h
                refine g_icmp_ne (tgt := 68) C dX12_rank_61 (by decide) g8 (by decide) (fun c => ?_) (fun c => ?_)
                · have h := hf c
                  refine g_bipush (v := 6) C dX12_rank_68 (by decide +kernel) ?_
                  refine G.sub [] rfl ?_
                  exact w_X12_rank_J70 C hR  h
                · have h := ht c
                  refine G.sub [] rfl ?_
                  exact w_X12_rank_J64 C hR  h
            · have h := ht c
              refine G.sub [] rfl ?_
              exact w_X12_rank_J48 C hR  h
      · have h := ht c
        refine g_iconst C dX12_rank_26 rfl ?_
        refine g_goto (tgt := 70) C dX12_rank_27 (by decide) ?_
        refine G.sub [] rfl ?_
        exact w_X12_rank_J70 C hR  h
    · have h := ht c
      refine g_iconst C dX12_rank_16 rfl ?_
      refine g_goto (tgt := 70) C dX12_rank_17 (by decide) ?_
      refine G.sub [] rfl ?_
      exact w_X12_rank_J70 C hR  h
  · have h := ht c
    refine g_iconst C dX12_rank_6 rfl ?_
    refine g_goto (tgt := 70) C dX12_rank_7 (by decide) ?_
    refine G.sub [] rfl ?_
    exact w_X12_rank_J70 C hR  h
set_option maxRecDepth 20000 in
theorem w_X12_joins_J87 {Y : YT} {X : CX} (C : Cx Y X cX12_joins 2 RX12 2) {Q : Mem → Prop} (hR : Rt Y X none (PQv Y Q))   {M : Mem}  (h : m_X12_joins_J87  Q  M) : G Y X 2 87 [] ([]) M := by
  unfold m_X12_joins_J87 at h
  exact g_retv C hR dX12_joins_87 h
set_option maxRecDepth 20000 in
theorem w_X12_joins_L0 {Y : YT} {X : CX} (C : Cx Y X cX12_joins 2 RX12 2) {Q : Mem → Prop} (hR : Rt Y X none (PQv Y Q)) {v1 : Int}  : ∀ (f : Nat) (M : Mem), m_X12_joins_L0  Q v1 f  M → G Y X 2 0 [(0, vR Y 199), (1, vI v1)] ([]) M := by
  intro f
  induction f with
  | zero =>
    intro M h
    exact (show False from h).elim
  | succ f ih =>
    intro M h
    unfold m_X12_joins_L0 at h
    refine g_aload_n (q := 0) C dX12_joins_0 rfl rfl ?_
    refine g_getI C fX12_147 (by decide) dX12_joins_1 kd_199 ?_
    refine g_aload_n (q := 0) C dX12_joins_4 rfl rfl ?_
    refine g_getS (v := 224) C fX12_135 dX12_joins_5 kd_199 rfl ?_
    refine g_aload_n (q := 0) C dX12_joins_8 rfl rfl ?_
    refine g_getI C fX12_138 (by decide) dX12_joins_9 kd_199 ?_
    refine g_iconst C dX12_joins_12 rfl ?_
    refine g_isub C dX12_joins_13 ?_
    obtain ⟨g1, h⟩ := h
    refine g_iald C dX12_joins_14 kd_224 ln_224 g1 ?_
    obtain ⟨g2, h⟩ := h
    obtain ⟨g3, h⟩ := h
    obtain ⟨ht, hf⟩ := h
    refine g_icmp_le (tgt := 87) C dX12_joins_15 (by decide) g2 g3 (fun c => ?_) (fun c => ?_)
    · have h := ht c
      refine G.sub [] rfl ?_
      exact w_X12_joins_J87 C hR  h
    · have h := hf c
      refine g_aload_n (q := 0) C dX12_joins_18 rfl rfl ?_
      refine g_getS (v := 225) C fX12_144 dX12_joins_19 kd_199 rfl ?_
      refine g_aload_n (q := 0) C dX12_joins_22 rfl rfl ?_
      refine g_getI C fX12_147 (by decide) dX12_joins_23 kd_199 ?_
      refine g_iconst C dX12_joins_26 rfl ?_
      refine g_isub C dX12_joins_27 ?_
      obtain ⟨g4, h⟩ := h
      refine g_iald C dX12_joins_28 kd_225 ln_225 g4 ?_
      refine g_cSi (As := [vI (M 225 ((M 199 44) - 1))]) C clX12_304 clsX12_rank dX12_joins_29 rfl (Nat.le_of_ble_eq_true rfl) rfl (by decide) (t_X12_rank (Cx.ok C) h) (fun r6 M5 h => ?_)
      refine g_iload_n (q := 1) C dX12_joins_32 rfl rfl ?_
      obtain ⟨g7, h⟩ := h
      obtain ⟨g8, h⟩ := h
      obtain ⟨ht, hf⟩ := h
      refine g_icmp_lt (tgt := 87) C dX12_joins_33 (by decide) g7 g8 (fun c => ?_) (fun c => ?_)
      · have h := ht c
        refine G.sub [] rfl ?_
        exact w_X12_joins_J87 C hR  h
      · have h := hf c
        refine g_aload_n (q := 0) C dX12_joins_36 rfl rfl ?_
        refine g_dup C dX12_joins_37 rfl ?_
        refine g_getI C fX12_147 (by decide) dX12_joins_38 kd_199 ?_
        refine g_iconst C dX12_joins_41 rfl ?_
        refine g_isub C dX12_joins_42 ?_
        obtain ⟨M9, e_M9⟩ : ∃ z : Mem, z = up M5 199 44 ((M5 199 44) - 1) := ⟨_, rfl⟩
        have h := h M9 e_M9
        refine g_putI C fX12_147 pX12_147 dX12_joins_43 kd_199 e_M9 ?_
        refine g_aload_n (q := 0) C dX12_joins_46 rfl rfl ?_
        refine g_aload_n (q := 0) C dX12_joins_47 rfl rfl ?_
        refine g_getS (v := 225) C fX12_144 dX12_joins_48 kd_199 rfl ?_
        refine g_aload_n (q := 0) C dX12_joins_51 rfl rfl ?_
        refine g_getI C fX12_147 (by decide) dX12_joins_52 kd_199 ?_
        obtain ⟨g10, h⟩ := h
        refine g_iald C dX12_joins_55 kd_225 ln_225 g10 ?_
        refine g_iconst C dX12_joins_56 rfl ?_
        refine g_cVv (As := [vI (M9 225 (M9 199 44)), vI 0]) C clX12_307 clvX12_add dX12_joins_57 kd_199 rfl (Nat.le_of_ble_eq_true rfl) rfl (by decide) (t_X12_add (Cx.ok C) h) (fun M11 h => ?_)
        refine g_aload_n (q := 0) C dX12_joins_60 rfl rfl ?_
        refine g_getS (v := 225) C fX12_144 dX12_joins_61 kd_199 rfl ?_
        refine g_aload_n (q := 0) C dX12_joins_64 rfl rfl ?_
        refine g_getI C fX12_147 (by decide) dX12_joins_65 kd_199 ?_
        obtain ⟨g12, h⟩ := h
        refine g_iald C dX12_joins_68 kd_225 ln_225 g12 ?_
        refine g_bipush (v := 43) C dX12_joins_69 (by decide +kernel) ?_
        obtain ⟨g13, h⟩ := h
        obtain ⟨ht, hf⟩ := h
        refine g_icmp_ne (tgt := 0) C dX12_joins_71 (by decide) g13 (by decide) (fun c => ?_) (fun c => ?_)
        · have h := hf c
          refine G.sub [0, 1] rfl ?_
          exact ih  _ h
        · have h := ht c
          refine g_aload_n (q := 0) C dX12_joins_74 rfl rfl ?_
          refine g_dup C dX12_joins_75 rfl ?_
          refine g_getI C fX12_141 (by decide) dX12_joins_76 kd_199 ?_
          refine g_iconst C dX12_joins_79 rfl ?_
          refine g_isub C dX12_joins_80 ?_
          obtain ⟨M14, e_M14⟩ : ∃ z : Mem, z = up M11 199 42 ((M11 199 42) - 1) := ⟨_, rfl⟩
          have h := h M14 e_M14
          refine g_putI C fX12_141 pX12_141 dX12_joins_81 kd_199 e_M14 ?_
          refine g_goto (tgt := 0) C dX12_joins_84 (by decide) ?_
          refine G.sub [0, 1] rfl ?_
          exact ih  _ h
set_option maxRecDepth 20000 in
theorem t_X12_joins {l : Launch} {Y : YT} (hY : YOK Y) {a0 : Int} {M : Mem} {Q : Mem → Prop} (h : m_X12_joins a0 M Q) : Ctr l Y yX12_joins cX12_joins 2 none 2 [vR Y 199, vI a0] M (PQv Y Q) := by
  unfold m_X12_joins at h
  refine ctr_ofF hY (by decide +kernel) (Nat.le_of_ble_eq_true rfl) [(0, vR Y 199), (1, vI a0)] rfl (fun X hX C hR => ?_)
  obtain ⟨f0, h⟩ := h
  refine G.sub [0, 1] rfl ?_
  exact w_X12_joins_L0 C hR  f0  _ h
set_option maxRecDepth 20000 in
theorem t_X12_holdsBack {l : Launch} {Y : YT} (hY : YOK Y) {a0 : Int} {M : Mem} {Q : Mem → Prop} (h : m_X12_holdsBack a0 M Q) : Ctr l Y yX12_holdsBack cX12_holdsBack 2 none 1 [vR Y 199, vI a0] M (PQv Y Q) := by
  unfold m_X12_holdsBack at h
  refine ctr_ofF hY (by decide +kernel) (Nat.le_of_ble_eq_true rfl) [(0, vR Y 199), (1, vI a0)] rfl (fun X hX C hR => ?_)
  refine g_aload_n (q := 0) C dX12_holdsBack_0 rfl rfl ?_
  refine g_getS (v := 225) C fX12_144 dX12_holdsBack_1 kd_199 rfl ?_
  refine g_aload_n (q := 0) C dX12_holdsBack_4 rfl rfl ?_
  refine g_getI C fX12_147 (by decide) dX12_holdsBack_5 kd_199 ?_
  refine g_iload_n (q := 1) C dX12_holdsBack_8 rfl rfl ?_
  obtain ⟨g1, h⟩ := h
  obtain ⟨M2, e_M2⟩ : ∃ z : Mem, z = up M 225 (M 199 44) a0 := ⟨_, rfl⟩
  have h := h M2 e_M2
  refine g_iast C dX12_holdsBack_9 kd_225 ln_225 g1 e_M2 ?_
  refine g_aload_n (q := 0) C dX12_holdsBack_10 rfl rfl ?_
  refine g_dup C dX12_holdsBack_11 rfl ?_
  refine g_getI C fX12_147 (by decide) dX12_holdsBack_12 kd_199 ?_
  refine g_iconst C dX12_holdsBack_15 rfl ?_
  refine g_iadd C dX12_holdsBack_16 ?_
  obtain ⟨M3, e_M3⟩ : ∃ z : Mem, z = up M2 199 44 ((M2 199 44) + 1) := ⟨_, rfl⟩
  have h := h M3 e_M3
  refine g_putI C fX12_147 pX12_147 dX12_holdsBack_17 kd_199 e_M3 ?_
  exact g_retv C hR dX12_holdsBack_20 h
set_option maxRecDepth 20000 in
theorem t_X12_pushes {l : Launch} {Y : YT} (hY : YOK Y) {a0 : Int} {M : Mem} {Q : Mem → Prop} (h : m_X12_pushes a0 M Q) : Ctr l Y yX12_pushes cX12_pushes 2 none 1 [vR Y 199, vI a0] M (PQv Y Q) := by
  unfold m_X12_pushes at h
  refine ctr_ofF hY (by decide +kernel) (Nat.le_of_ble_eq_true rfl) [(0, vR Y 199), (1, vI a0)] rfl (fun X hX C hR => ?_)
  refine g_aload_n (q := 0) C dX12_pushes_0 rfl rfl ?_
  refine g_getS (v := 220) C fX12_122 dX12_pushes_1 kd_199 rfl ?_
  refine g_aload_n (q := 0) C dX12_pushes_4 rfl rfl ?_
  refine g_getI C fX12_138 (by decide) dX12_pushes_5 kd_199 ?_
  refine g_iload_n (q := 1) C dX12_pushes_8 rfl rfl ?_
  obtain ⟨g1, h⟩ := h
  obtain ⟨M2, e_M2⟩ : ∃ z : Mem, z = up M 220 (M 199 41) a0 := ⟨_, rfl⟩
  have h := h M2 e_M2
  refine g_iast C dX12_pushes_9 kd_220 ln_220 g1 e_M2 ?_
  refine g_aload_n (q := 0) C dX12_pushes_10 rfl rfl ?_
  refine g_getS (v := 221) C fX12_125 dX12_pushes_11 kd_199 rfl ?_
  refine g_aload_n (q := 0) C dX12_pushes_14 rfl rfl ?_
  refine g_getI C fX12_138 (by decide) dX12_pushes_15 kd_199 ?_
  refine g_iconst C dX12_pushes_18 rfl ?_
  obtain ⟨g3, h⟩ := h
  obtain ⟨M4, e_M4⟩ : ∃ z : Mem, z = up M2 221 (M2 199 41) 0 := ⟨_, rfl⟩
  have h := h M4 e_M4
  refine g_iast C dX12_pushes_19 kd_221 ln_221 g3 e_M4 ?_
  refine g_aload_n (q := 0) C dX12_pushes_20 rfl rfl ?_
  refine g_getS (v := 222) C fX12_128 dX12_pushes_21 kd_199 rfl ?_
  refine g_aload_n (q := 0) C dX12_pushes_24 rfl rfl ?_
  refine g_getI C fX12_138 (by decide) dX12_pushes_25 kd_199 ?_
  refine g_iconst C dX12_pushes_28 rfl ?_
  obtain ⟨g5, h⟩ := h
  obtain ⟨M6, e_M6⟩ : ∃ z : Mem, z = up M4 222 (M4 199 41) 1 := ⟨_, rfl⟩
  have h := h M6 e_M6
  refine g_zast C dX12_pushes_29 kd_222 ln_222 g5 (by decide) e_M6 ?_
  refine g_aload_n (q := 0) C dX12_pushes_30 rfl rfl ?_
  refine g_getS (v := 224) C fX12_135 dX12_pushes_31 kd_199 rfl ?_
  refine g_aload_n (q := 0) C dX12_pushes_34 rfl rfl ?_
  refine g_getI C fX12_138 (by decide) dX12_pushes_35 kd_199 ?_
  refine g_aload_n (q := 0) C dX12_pushes_38 rfl rfl ?_
  refine g_getI C fX12_147 (by decide) dX12_pushes_39 kd_199 ?_
  obtain ⟨g7, h⟩ := h
  obtain ⟨M8, e_M8⟩ : ∃ z : Mem, z = up M6 224 (M6 199 41) (M6 199 44) := ⟨_, rfl⟩
  have h := h M8 e_M8
  refine g_iast C dX12_pushes_42 kd_224 ln_224 g7 e_M8 ?_
  refine g_aload_n (q := 0) C dX12_pushes_43 rfl rfl ?_
  refine g_dup C dX12_pushes_44 rfl ?_
  refine g_getI C fX12_138 (by decide) dX12_pushes_45 kd_199 ?_
  refine g_iconst C dX12_pushes_48 rfl ?_
  refine g_iadd C dX12_pushes_49 ?_
  obtain ⟨M9, e_M9⟩ : ∃ z : Mem, z = up M8 199 41 ((M8 199 41) + 1) := ⟨_, rfl⟩
  have h := h M9 e_M9
  refine g_putI C fX12_138 pX12_138 dX12_pushes_50 kd_199 e_M9 ?_
  exact g_retv C hR dX12_pushes_53 h
set_option maxRecDepth 20000 in
theorem w_X12_opens_J18 {Y : YT} {X : CX} (C : Cx Y X cX12_opens 2 RX12 3) {Q : Mem → Prop} (hR : Rt Y X none (PQv Y Q)) {v1 : Int}  {M : Mem}  (h : m_X12_opens_J18  Q v1 M) : G Y X 2 18 [(0, vR Y 199), (1, vI v1)] ([]) M := by
  unfold m_X12_opens_J18 at h
  refine g_aload_n (q := 0) C dX12_opens_18 rfl rfl ?_
  refine g_getI C fX12_36 (by decide) dX12_opens_19 kd_199 ?_
  obtain ⟨g1, h⟩ := h
  obtain ⟨ht, hf⟩ := h
  refine g_if_le (tgt := 26) C dX12_opens_22 (by decide) g1 (fun c => ?_) (fun c => ?_)
  · have h := ht c
    refine g_aload_n (q := 0) C dX12_opens_26 rfl rfl ?_
    refine g_dup C dX12_opens_27 rfl ?_
    refine g_getI C fX12_141 (by decide) dX12_opens_28 kd_199 ?_
    refine g_iconst C dX12_opens_31 rfl ?_
    refine g_iadd C dX12_opens_32 ?_
    obtain ⟨M2, e_M2⟩ : ∃ z : Mem, z = up M 199 42 ((M 199 42) + 1) := ⟨_, rfl⟩
    have h := h M2 e_M2
    refine g_putI C fX12_141 pX12_141 dX12_opens_33 kd_199 e_M2 ?_
    refine g_aload_n (q := 0) C dX12_opens_36 rfl rfl ?_
    refine g_cVv (As := []) C clX12_241 clvX12_ahead dX12_opens_37 kd_199 rfl (Nat.le_of_ble_eq_true rfl) rfl (by decide) (t_X12_ahead (Cx.ok C) h) (fun M3 h => ?_)
    refine g_aload_n (q := 0) C dX12_opens_40 rfl rfl ?_
    refine g_iload_n (q := 1) C dX12_opens_41 rfl rfl ?_
    refine g_cVv (As := [vI v1]) C clX12_310 clvX12_pushes dX12_opens_42 kd_199 rfl (Nat.le_of_ble_eq_true rfl) rfl (by decide) (t_X12_pushes (Cx.ok C) h) (fun M4 h => ?_)
    exact g_retv C hR dX12_opens_45 h
  · have h := hf c
    exact g_retv C hR dX12_opens_25 h
set_option maxRecDepth 20000 in
theorem t_X12_opens {l : Launch} {Y : YT} (hY : YOK Y) {a0 : Int} {M : Mem} {Q : Mem → Prop} (h : m_X12_opens a0 M Q) : Ctr l Y yX12_opens cX12_opens 2 none 3 [vR Y 199, vI a0] M (PQv Y Q) := by
  unfold m_X12_opens at h
  refine ctr_ofF hY (by decide +kernel) (Nat.le_of_ble_eq_true rfl) [(0, vR Y 199), (1, vI a0)] rfl (fun X hX C hR => ?_)
  refine g_aload_n (q := 0) C dX12_opens_0 rfl rfl ?_
  refine g_getI C fX12_141 (by decide) dX12_opens_1 kd_199 ?_
  refine g_bipush (v := 7) C dX12_opens_4 (by decide +kernel) ?_
  obtain ⟨g5, h⟩ := h
  obtain ⟨ht, hf⟩ := h
  refine g_icmp_ne (tgt := 18) C dX12_opens_6 (by decide) g5 (by decide) (fun c => ?_) (fun c => ?_)
  · have h := hf c
    refine G.sub [0, 1] rfl ?_
    exact w_X12_opens_J18 C hR  h
  · have h := ht c
    refine g_aload_n (q := 0) C dX12_opens_9 rfl rfl ?_
    refine g_iconst C dX12_opens_10 rfl ?_
    refine g_aload_n (q := 0) C dX12_opens_11 rfl rfl ?_
    refine g_getI C fX12_23 (by decide) dX12_opens_12 kd_199 ?_
    refine g_cVv (As := [vI 5, vI (M 199 4)]) C clX12_224 clvX12_blame dX12_opens_15 kd_199 rfl (Nat.le_of_ble_eq_true rfl) rfl (by decide) (t_X12_blame (Cx.ok C) h) (fun M6 h => ?_)
    refine G.sub [0, 1] rfl ?_
    exact w_X12_opens_J18 C hR  h
set_option maxRecDepth 20000 in
theorem w_X12_isTest_J21 {Y : YT} {X : CX} (C : Cx Y X cX12_isTest 1 RX12 1) {Q : Int → Mem → Prop} (hR : Rt Y X (some .boolean) (PQi Y Q)) {s0 : Int}  {M : Mem}  (h : m_X12_isTest_J21  Q s0 M) : G Y X 1 21 [] ((vI s0) :: []) M := by
  unfold m_X12_isTest_J21 at h
  obtain ⟨g1, h⟩ := h
  exact g_retz C hR dX12_isTest_21 g1 h
set_option maxRecDepth 20000 in
theorem w_X12_isTest_J16 {Y : YT} {X : CX} (C : Cx Y X cX12_isTest 1 RX12 1) {Q : Int → Mem → Prop} (hR : Rt Y X (some .boolean) (PQi Y Q))   {M : Mem}  (h : m_X12_isTest_J16  Q  M) : G Y X 1 16 [] ([]) M := by
  unfold m_X12_isTest_J16 at h
  refine g_iconst C dX12_isTest_16 rfl ?_
  refine g_goto (tgt := 21) C dX12_isTest_17 (by decide) ?_
  refine G.sub [] rfl ?_
  exact w_X12_isTest_J21 C hR  h
set_option maxRecDepth 20000 in
theorem t_X12_isTest {l : Launch} {Y : YT} (hY : YOK Y) {a0 : Int} {M : Mem} {Q : Int → Mem → Prop} (h : m_X12_isTest a0 M Q) : Ctr l Y yX12_isTest cX12_isTest 1 (some .boolean) 1 [vI a0] M (PQi Y Q) := by
  unfold m_X12_isTest at h
  refine ctr_ofF hY (by decide +kernel) (Nat.le_of_ble_eq_true rfl) [(0, vI a0)] rfl (fun X hX C hR => ?_)
  refine g_iload_n (q := 0) C dX12_isTest_0 rfl rfl ?_
  refine g_iconst C dX12_isTest_1 rfl ?_
  obtain ⟨g2, h⟩ := h
  obtain ⟨ht, hf⟩ := h
  refine g_icmp_eq (tgt := 16) C dX12_isTest_2 (by decide) g2 (by decide) (fun c => ?_) (fun c => ?_)
  · have h := ht c
    refine G.sub [] rfl ?_
    exact w_X12_isTest_J16 C hR  h
  · have h := hf c
    refine g_iload_n (q := 0) C dX12_isTest_5 rfl rfl ?_
    refine g_iconst C dX12_isTest_6 rfl ?_
    obtain ⟨g3, h⟩ := h
    obtain ⟨ht, hf⟩ := h
    refine g_icmp_eq (tgt := 16) C dX12_isTest_7 (by decide) g3 (by decide) (fun c => ?_) (fun c => ?_)
    · have h := ht c
      refine G.sub [] rfl ?_
      exact w_X12_isTest_J16 C hR  h
    · have h := hf c
      refine g_iload_n (q := 0) C dX12_isTest_10 rfl rfl ?_
      refine g_bipush (v := 6) C dX12_isTest_11 (by decide +kernel) ?_
      obtain ⟨g4, h⟩ := h
      obtain ⟨ht, hf⟩ := h
      refine g_icmp_ne (tgt := 20) C dX12_isTest_13 (by decide) g4 (by decide) (fun c => ?_) (fun c => ?_)
      · have h := hf c
        refine g_iconst C dX12_isTest_20 rfl ?_
        refine G.sub [] rfl ?_
        exact w_X12_isTest_J21 C hR  h
      · have h := ht c
        refine G.sub [] rfl ?_
        exact w_X12_isTest_J16 C hR  h
set_option maxRecDepth 20000 in
theorem w_X12_operand_J455 {Y : YT} {X : CX} (C : Cx Y X cX12_operand 4 RX12 4) {Q : Int → Mem → Prop} (hR : Rt Y X (some .boolean) (PQi Y Q)) {v3 : Int}  {M : Mem}  (h : m_X12_operand_J455  Q v3 M) : G Y X 4 455 [(0, vR Y 199), (3, vI v3)] ([]) M := by
  unfold m_X12_operand_J455 at h
  refine g_aload_n (q := 0) C dX12_operand_455 rfl rfl ?_
  refine g_getI C fX12_36 (by decide) dX12_operand_456 kd_199 ?_
  obtain ⟨g1, h⟩ := h
  obtain ⟨ht, hf⟩ := h
  refine g_if_le (tgt := 464) C dX12_operand_459 (by decide) g1 (fun c => ?_) (fun c => ?_)
  · have h := ht c
    refine g_aload_n (q := 0) C dX12_operand_464 rfl rfl ?_
    refine g_iload_n (q := 1) C dX12_operand_465 rfl rfl ?_
    refine g_aload_n (q := 0) C dX12_operand_466 rfl rfl ?_
    refine g_getI C fX12_29 (by decide) dX12_operand_467 kd_199 ?_
    refine g_cVv (As := [vI v3, vI (M 199 6)]) C clX12_307 clvX12_add dX12_operand_470 kd_199 rfl (Nat.le_of_ble_eq_true rfl) rfl (by decide) (t_X12_add (Cx.ok C) h) (fun M2 h => ?_)
    refine g_aload_n (q := 0) C dX12_operand_473 rfl rfl ?_
    refine g_cVv (As := []) C clX12_241 clvX12_ahead dX12_operand_474 kd_199 rfl (Nat.le_of_ble_eq_true rfl) rfl (by decide) (t_X12_ahead (Cx.ok C) h) (fun M3 h => ?_)
    refine g_iconst C dX12_operand_477 rfl ?_
    exact g_retz C hR dX12_operand_478 (by decide) h
  · have h := hf c
    refine g_iconst C dX12_operand_462 rfl ?_
    exact g_retz C hR dX12_operand_463 (by decide) h
set_option maxRecDepth 20000 in
theorem w_X12_operand_J441 {Y : YT} {X : CX} (C : Cx Y X cX12_operand 4 RX12 4) {Q : Int → Mem → Prop} (hR : Rt Y X (some .boolean) (PQi Y Q)) {v3 : Int}  {M : Mem}  (h : m_X12_operand_J441  Q v3 M) : G Y X 4 441 [(0, vR Y 199), (3, vI v3)] ([]) M := by
  unfold m_X12_operand_J441 at h
  refine g_iload_n (q := 1) C dX12_operand_441 rfl rfl ?_
  refine g_iconst C dX12_operand_442 rfl ?_
  obtain ⟨g4, h⟩ := h
  obtain ⟨ht, hf⟩ := h
  refine g_icmp_ne (tgt := 455) C dX12_operand_443 (by decide) g4 (by decide) (fun c => ?_) (fun c => ?_)
  · have h := hf c
    refine G.sub [0, 1] rfl ?_
    exact w_X12_operand_J455 C hR  h
  · have h := ht c
    refine g_aload_n (q := 0) C dX12_operand_446 rfl rfl ?_
    refine g_iconst C dX12_operand_447 rfl ?_
    refine g_aload_n (q := 0) C dX12_operand_448 rfl rfl ?_
    refine g_getI C fX12_23 (by decide) dX12_operand_449 kd_199 ?_
    refine g_cVv (As := [vI 1, vI (M 199 4)]) C clX12_224 clvX12_blame dX12_operand_452 kd_199 rfl (Nat.le_of_ble_eq_true rfl) rfl (by decide) (t_X12_blame (Cx.ok C) h) (fun M5 h => ?_)
    refine G.sub [0, 1] rfl ?_
    exact w_X12_operand_J455 C hR  h
set_option maxRecDepth 20000 in
theorem w_X12_operand_J426 {Y : YT} {X : CX} (C : Cx Y X cX12_operand 4 RX12 4) {Q : Int → Mem → Prop} (hR : Rt Y X (some .boolean) (PQi Y Q)) {s0 : Int}  {M : Mem}  (h : m_X12_operand_J426  Q s0 M) : G Y X 4 426 [(0, vR Y 199)] ((vI s0) :: []) M := by
  unfold m_X12_operand_J426 at h
  refine g_istore_n (lv' := [(3, vI s0), (0, vR Y 199)]) C dX12_operand_426 rfl (by decide) rfl ?_
  refine g_iload_n (q := 0) C dX12_operand_427 rfl rfl ?_
  refine g_iconst C dX12_operand_428 rfl ?_
  obtain ⟨g6, h⟩ := h
  obtain ⟨ht, hf⟩ := h
  refine g_icmp_le (tgt := 441) C dX12_operand_429 (by decide) g6 (by decide) (fun c => ?_) (fun c => ?_)
  · have h := ht c
    refine G.sub [1, 0] rfl ?_
    exact w_X12_operand_J441 C hR  h
  · have h := hf c
    refine g_aload_n (q := 1) C dX12_operand_432 rfl rfl ?_
    refine g_getI C fX12_118 (by decide) dX12_operand_433 kd_199 ?_
    obtain ⟨g7, h⟩ := h
    obtain ⟨ht, hf⟩ := h
    refine g_if_ne (tgt := 441) C dX12_operand_436 (by decide) g7 (fun c => ?_) (fun c => ?_)
    · have h := hf c
      refine G.sub [1, 0] rfl ?_
      exact w_X12_operand_J441 C hR  h
    · have h := ht c
      refine g_iconst C dX12_operand_439 rfl ?_
      refine g_istore_n (lv' := [(3, vI (-1)), (0, vR Y 199)]) C dX12_operand_440 rfl (by decide) rfl ?_
      refine G.sub [1, 0] rfl ?_
      exact w_X12_operand_J441 C hR  h
set_option maxRecDepth 20000 in
theorem w_X12_operand_J311 {Y : YT} {X : CX} (C : Cx Y X cX12_operand 4 RX12 4) {Q : Int → Mem → Prop} (hR : Rt Y X (some .boolean) (PQi Y Q))   {M : Mem}  (h : m_X12_operand_J311  Q  M) : G Y X 4 311 [] ([]) M := by
  unfold m_X12_operand_J311 at h
  refine g_iconst C dX12_operand_311 rfl ?_
  exact g_retz C hR dX12_operand_312 (by decide) h
set_option maxRecDepth 20000 in
theorem w_X12_operand_J289 {Y : YT} {X : CX} (C : Cx Y X cX12_operand 4 RX12 4) {Q : Int → Mem → Prop} (hR : Rt Y X (some .boolean) (PQi Y Q)) {v3 : Int} {s1 : Int}  {M : Mem}  (h : m_X12_operand_J289  Q v3 s1 M) : G Y X 4 289 [(0, vR Y 199), (3, vI v3)] ((vI s1) :: (vR Y 199) :: []) M := by
  unfold m_X12_operand_J289 at h
  refine g_cVv (As := [vI s1]) C clX12_323 clvX12_opens dX12_operand_289 kd_199 rfl (Nat.le_of_ble_eq_true rfl) rfl (by decide) (t_X12_opens (Cx.ok C) h) (fun M8 h => ?_)
  refine g_aload_n (q := 0) C dX12_operand_292 rfl rfl ?_
  refine g_getI C fX12_36 (by decide) dX12_operand_293 kd_199 ?_
  obtain ⟨g9, h⟩ := h
  obtain ⟨ht, hf⟩ := h
  refine g_if_ne (tgt := 311) C dX12_operand_296 (by decide) g9 (fun c => ?_) (fun c => ?_)
  · have h := hf c
    refine G.sub [] rfl ?_
    exact w_X12_operand_J311 C hR  h
  · have h := ht c
    refine g_aload_n (q := 0) C dX12_operand_299 rfl rfl ?_
    refine g_getS (v := 223) C fX12_132 dX12_operand_300 kd_199 rfl ?_
    refine g_aload_n (q := 0) C dX12_operand_303 rfl rfl ?_
    refine g_getI C fX12_138 (by decide) dX12_operand_304 kd_199 ?_
    refine g_iconst C dX12_operand_307 rfl ?_
    refine g_isub C dX12_operand_308 ?_
    refine g_iload_n (q := 1) C dX12_operand_309 rfl rfl ?_
    obtain ⟨g10, h⟩ := h
    obtain ⟨M11, e_M11⟩ : ∃ z : Mem, z = up M8 223 ((M8 199 41) - 1) v3 := ⟨_, rfl⟩
    have h := h M11 e_M11
    refine g_iast C dX12_operand_310 kd_223 ln_223 g10 e_M11 ?_
    refine G.sub [] rfl ?_
    exact w_X12_operand_J311 C hR  h
set_option maxRecDepth 20000 in
theorem w_X12_operand_J276 {Y : YT} {X : CX} (C : Cx Y X cX12_operand 4 RX12 4) {Q : Int → Mem → Prop} (hR : Rt Y X (some .boolean) (PQi Y Q)) {v3 : Int}  {M : Mem}  (h : m_X12_operand_J276  Q v3 M) : G Y X 4 276 [(0, vR Y 199), (3, vI v3)] ([]) M := by
  unfold m_X12_operand_J276 at h
  refine g_aload_n (q := 0) C dX12_operand_276 rfl rfl ?_
  refine g_iload_n (q := 1) C dX12_operand_277 rfl rfl ?_
  refine g_bipush (v := 44) C dX12_operand_278 (by decide +kernel) ?_
  obtain ⟨g12, h⟩ := h
  obtain ⟨ht, hf⟩ := h
  refine g_icmp_ne (tgt := 288) C dX12_operand_280 (by decide) g12 (by decide) (fun c => ?_) (fun c => ?_)
  · have h := hf c
    refine g_iconst C dX12_operand_288 rfl ?_
    refine G.sub [0, 1] rfl ?_
    exact w_X12_operand_J289 C hR  h
  · have h := ht c
    refine g_bipush (v := 6) C dX12_operand_283 (by decide +kernel) ?_
    refine g_goto (tgt := 289) C dX12_operand_285 (by decide) ?_
    refine G.sub [0, 1] rfl ?_
    exact w_X12_operand_J289 C hR  h
set_option maxRecDepth 20000 in
theorem w_X12_operand_J249 {Y : YT} {X : CX} (C : Cx Y X cX12_operand 4 RX12 4) {Q : Int → Mem → Prop} (hR : Rt Y X (some .boolean) (PQi Y Q)) {s0 : Int}  {M : Mem}  (h : m_X12_operand_J249  Q s0 M) : G Y X 4 249 [(0, vR Y 199)] ((vI s0) :: []) M := by
  unfold m_X12_operand_J249 at h
  refine g_istore_n (lv' := [(3, vI s0), (0, vR Y 199)]) C dX12_operand_249 rfl (by decide) rfl ?_
  refine g_aload_n (q := 1) C dX12_operand_250 rfl rfl ?_
  refine g_cVv (As := []) C clX12_241 clvX12_ahead dX12_operand_251 kd_199 rfl (Nat.le_of_ble_eq_true rfl) rfl (by decide) (t_X12_ahead (Cx.ok C) h) (fun M13 h => ?_)
  refine g_aload_n (q := 1) C dX12_operand_254 rfl rfl ?_
  refine g_cVv (As := []) C clX12_235 clvX12_lex dX12_operand_255 kd_199 rfl (Nat.le_of_ble_eq_true rfl) rfl (by decide) (t_X12_lex (Cx.ok C) h) (fun M14 h => ?_)
  refine g_aload_n (q := 1) C dX12_operand_258 rfl rfl ?_
  refine g_bipush (v := 40) C dX12_operand_259 (by decide +kernel) ?_
  refine g_cVi (As := [vI 40]) C clX12_238 clvX12_isSign dX12_operand_261 kd_199 rfl (Nat.le_of_ble_eq_true rfl) rfl (by decide) (t_X12_isSign (Cx.ok C) h) (fun r16 M15 h => ?_)
  obtain ⟨g17, h⟩ := h
  obtain ⟨ht, hf⟩ := h
  refine g_if_ne (tgt := 276) C dX12_operand_264 (by decide) g17 (fun c => ?_) (fun c => ?_)
  · have h := hf c
    refine G.sub [1, 0] rfl ?_
    exact w_X12_operand_J276 C hR  h
  · have h := ht c
    refine g_aload_n (q := 1) C dX12_operand_267 rfl rfl ?_
    refine g_iconst C dX12_operand_268 rfl ?_
    refine g_aload_n (q := 1) C dX12_operand_269 rfl rfl ?_
    refine g_getI C fX12_23 (by decide) dX12_operand_270 kd_199 ?_
    refine g_cVv (As := [vI 1, vI (M15 199 4)]) C clX12_224 clvX12_blame dX12_operand_273 kd_199 rfl (Nat.le_of_ble_eq_true rfl) rfl (by decide) (t_X12_blame (Cx.ok C) h) (fun M18 h => ?_)
    refine G.sub [1, 0] rfl ?_
    exact w_X12_operand_J276 C hR  h
set_option maxRecDepth 20000 in
theorem w_X12_operand_J217 {Y : YT} {X : CX} (C : Cx Y X cX12_operand 4 RX12 4) {Q : Int → Mem → Prop} (hR : Rt Y X (some .boolean) (PQi Y Q))   {M : Mem}  (h : m_X12_operand_J217  Q  M) : G Y X 4 217 [(0, vR Y 199)] ([]) M := by
  unfold m_X12_operand_J217 at h
  refine g_aload_n (q := 0) C dX12_operand_217 rfl rfl ?_
  refine g_ldc2 (v := 7170414) C dX12_operand_218 kX12_288 (by decide +kernel) ?_
  refine g_cVi (As := [vL 7170414]) C clX12_316 clvX12_isWord dX12_operand_221 kd_199 rfl (Nat.le_of_ble_eq_true rfl) rfl (by decide) (t_X12_isWord (Cx.ok C) h) (fun r20 M19 h => ?_)
  obtain ⟨g21, h⟩ := h
  obtain ⟨ht, hf⟩ := h
  refine g_if_eq (tgt := 232) C dX12_operand_224 (by decide) g21 (fun c => ?_) (fun c => ?_)
  · have h := ht c
    refine g_aload_n (q := 0) C dX12_operand_232 rfl rfl ?_
    refine g_ldc2 (v := 7168376) C dX12_operand_233 kX12_290 (by decide +kernel) ?_
    refine g_cVi (As := [vL 7168376]) C clX12_316 clvX12_isWord dX12_operand_236 kd_199 rfl (Nat.le_of_ble_eq_true rfl) rfl (by decide) (t_X12_isWord (Cx.ok C) h) (fun r23 M22 h => ?_)
    obtain ⟨g24, h⟩ := h
    obtain ⟨ht, hf⟩ := h
    refine g_if_eq (tgt := 247) C dX12_operand_239 (by decide) g24 (fun c => ?_) (fun c => ?_)
    · have h := ht c
      refine g_bipush (v := 44) C dX12_operand_247 (by decide +kernel) ?_
      refine G.sub [0] rfl ?_
      exact w_X12_operand_J249 C hR  h
    · have h := hf c
      refine g_bipush (v := 37) C dX12_operand_242 (by decide +kernel) ?_
      refine g_goto (tgt := 249) C dX12_operand_244 (by decide) ?_
      refine G.sub [0] rfl ?_
      exact w_X12_operand_J249 C hR  h
  · have h := hf c
    refine g_bipush (v := 36) C dX12_operand_227 (by decide +kernel) ?_
    refine g_goto (tgt := 249) C dX12_operand_229 (by decide) ?_
    refine G.sub [0] rfl ?_
    exact w_X12_operand_J249 C hR  h
set_option maxRecDepth 20000 in
theorem w_X12_operand_J171 {Y : YT} {X : CX} (C : Cx Y X cX12_operand 4 RX12 4) {Q : Int → Mem → Prop} (hR : Rt Y X (some .boolean) (PQi Y Q))   {M : Mem}  (h : m_X12_operand_J171  Q  M) : G Y X 4 171 [(0, vR Y 199)] ([]) M := by
  unfold m_X12_operand_J171 at h
  refine g_aload_n (q := 0) C dX12_operand_171 rfl rfl ?_
  refine g_bipush (v := 40) C dX12_operand_172 (by decide +kernel) ?_
  refine g_cVi (As := [vI 40]) C clX12_238 clvX12_isSign dX12_operand_174 kd_199 rfl (Nat.le_of_ble_eq_true rfl) rfl (by decide) (t_X12_isSign (Cx.ok C) h) (fun r26 M25 h => ?_)
  obtain ⟨g27, h⟩ := h
  obtain ⟨ht, hf⟩ := h
  refine g_if_eq (tgt := 187) C dX12_operand_177 (by decide) g27 (fun c => ?_) (fun c => ?_)
  · have h := ht c
    refine g_aload_n (q := 0) C dX12_operand_187 rfl rfl ?_
    refine g_ldc2 (v := 7170414) C dX12_operand_188 kX12_288 (by decide +kernel) ?_
    refine g_cVi (As := [vL 7170414]) C clX12_316 clvX12_isWord dX12_operand_191 kd_199 rfl (Nat.le_of_ble_eq_true rfl) rfl (by decide) (t_X12_isWord (Cx.ok C) h) (fun r29 M28 h => ?_)
    obtain ⟨g30, h⟩ := h
    obtain ⟨ht, hf⟩ := h
    refine g_if_ne (tgt := 217) C dX12_operand_194 (by decide) g30 (fun c => ?_) (fun c => ?_)
    · have h := hf c
      refine G.sub [0] rfl ?_
      exact w_X12_operand_J217 C hR  h
    · have h := ht c
      refine g_aload_n (q := 0) C dX12_operand_197 rfl rfl ?_
      refine g_ldc2 (v := 7168376) C dX12_operand_198 kX12_290 (by decide +kernel) ?_
      refine g_cVi (As := [vL 7168376]) C clX12_316 clvX12_isWord dX12_operand_201 kd_199 rfl (Nat.le_of_ble_eq_true rfl) rfl (by decide) (t_X12_isWord (Cx.ok C) h) (fun r32 M31 h => ?_)
      obtain ⟨g33, h⟩ := h
      obtain ⟨ht, hf⟩ := h
      refine g_if_ne (tgt := 217) C dX12_operand_204 (by decide) g33 (fun c => ?_) (fun c => ?_)
      · have h := hf c
        refine G.sub [0] rfl ?_
        exact w_X12_operand_J217 C hR  h
      · have h := ht c
        refine g_aload_n (q := 0) C dX12_operand_207 rfl rfl ?_
        refine g_ldc2 (v := 26982) C dX12_operand_208 kX12_278 (by decide +kernel) ?_
        refine g_cVi (As := [vL 26982]) C clX12_316 clvX12_isWord dX12_operand_211 kd_199 rfl (Nat.le_of_ble_eq_true rfl) rfl (by decide) (t_X12_isWord (Cx.ok C) h) (fun r35 M34 h => ?_)
        obtain ⟨g36, h⟩ := h
        obtain ⟨ht, hf⟩ := h
        refine g_if_eq (tgt := 313) C dX12_operand_214 (by decide) g36 (fun c => ?_) (fun c => ?_)
        · have h := ht c
          refine g_aload_n (q := 0) C dX12_operand_313 rfl rfl ?_
          refine g_getI C fX12_20 (by decide) dX12_operand_314 kd_199 ?_
          refine g_iconst C dX12_operand_317 rfl ?_
          obtain ⟨g37, h⟩ := h
          obtain ⟨ht, hf⟩ := h
          refine g_icmp_ne (tgt := 325) C dX12_operand_318 (by decide) g37 (by decide) (fun c => ?_) (fun c => ?_)
          · have h := hf c
            refine g_aload_n (q := 0) C dX12_operand_325 rfl rfl ?_
            refine g_ldc2 (v := 1802071652) C dX12_operand_326 kX12_254 (by decide +kernel) ?_
            refine g_cVi (As := [vL 1802071652]) C clX12_316 clvX12_isWord dX12_operand_329 kd_199 rfl (Nat.le_of_ble_eq_true rfl) rfl (by decide) (t_X12_isWord (Cx.ok C) h) (fun r39 M38 h => ?_)
            obtain ⟨g40, h⟩ := h
            obtain ⟨ht, hf⟩ := h
            refine g_if_eq (tgt := 339) C dX12_operand_332 (by decide) g40 (fun c => ?_) (fun c => ?_)
            · have h := ht c
              refine g_aload_n (q := 0) C dX12_operand_339 rfl rfl ?_
              refine g_ldc2 (v := 1937007984) C dX12_operand_340 kX12_266 (by decide +kernel) ?_
              refine g_cVi (As := [vL 1937007984]) C clX12_316 clvX12_isWord dX12_operand_343 kd_199 rfl (Nat.le_of_ble_eq_true rfl) rfl (by decide) (t_X12_isWord (Cx.ok C) h) (fun r42 M41 h => ?_)
              obtain ⟨g43, h⟩ := h
              obtain ⟨ht, hf⟩ := h
              refine g_if_eq (tgt := 353) C dX12_operand_346 (by decide) g43 (fun c => ?_) (fun c => ?_)
              · have h := ht c
                refine g_aload_n (q := 0) C dX12_operand_353 rfl rfl ?_
                refine g_ldc2 (v := 6578553) C dX12_operand_354 kX12_268 (by decide +kernel) ?_
                refine g_cVi (As := [vL 6578553]) C clX12_316 clvX12_isWord dX12_operand_357 kd_199 rfl (Nat.le_of_ble_eq_true rfl) rfl (by decide) (t_X12_isWord (Cx.ok C) h) (fun r45 M44 h => ?_)
                obtain ⟨g46, h⟩ := h
                obtain ⟨ht, hf⟩ := h
                refine g_if_eq (tgt := 367) C dX12_operand_360 (by decide) g46 (fun c => ?_) (fun c => ?_)
                · have h := ht c
                  refine g_aload_n (q := 0) C dX12_operand_367 rfl rfl ?_
                  refine g_ldc2 (v := 1751478885) C dX12_operand_368 kX12_270 (by decide +kernel) ?_
                  refine g_cVi (As := [vL 1751478885]) C clX12_316 clvX12_isWord dX12_operand_371 kd_199 rfl (Nat.le_of_ble_eq_true rfl) rfl (by decide) (t_X12_isWord (Cx.ok C) h) (fun r48 M47 h => ?_)
                  obtain ⟨g49, h⟩ := h
                  obtain ⟨ht, hf⟩ := h
                  refine g_if_eq (tgt := 381) C dX12_operand_374 (by decide) g49 (fun c => ?_) (fun c => ?_)
                  · have h := ht c
                    refine g_aload_n (q := 0) C dX12_operand_381 rfl rfl ?_
                    refine g_ldc2 (v := 495673374574) C dX12_operand_382 kX12_272 (by decide +kernel) ?_
                    refine g_cVi (As := [vL 495673374574]) C clX12_316 clvX12_isWord dX12_operand_385 kd_199 rfl (Nat.le_of_ble_eq_true rfl) rfl (by decide) (t_X12_isWord (Cx.ok C) h) (fun r51 M50 h => ?_)
                    obtain ⟨g52, h⟩ := h
                    obtain ⟨ht, hf⟩ := h
                    refine g_if_eq (tgt := 395) C dX12_operand_388 (by decide) g52 (fun c => ?_) (fun c => ?_)
                    · have h := ht c
                      refine g_aload_n (q := 0) C dX12_operand_395 rfl rfl ?_
                      refine g_ldc2 (v := 499967685221) C dX12_operand_396 kX12_274 (by decide +kernel) ?_
                      refine g_cVi (As := [vL 499967685221]) C clX12_316 clvX12_isWord dX12_operand_399 kd_199 rfl (Nat.le_of_ble_eq_true rfl) rfl (by decide) (t_X12_isWord (Cx.ok C) h) (fun r54 M53 h => ?_)
                      obtain ⟨g55, h⟩ := h
                      obtain ⟨ht, hf⟩ := h
                      refine g_if_eq (tgt := 410) C dX12_operand_402 (by decide) g55 (fun c => ?_) (fun c => ?_)
                      · have h := ht c
                        refine g_aload_n (q := 0) C dX12_operand_410 rfl rfl ?_
                        refine g_ldc2 (v := 6709618) C dX12_operand_411 kX12_276 (by decide +kernel) ?_
                        refine g_cVi (As := [vL 6709618]) C clX12_316 clvX12_isWord dX12_operand_414 kd_199 rfl (Nat.le_of_ble_eq_true rfl) rfl (by decide) (t_X12_isWord (Cx.ok C) h) (fun r57 M56 h => ?_)
                        obtain ⟨g58, h⟩ := h
                        obtain ⟨ht, hf⟩ := h
                        refine g_if_eq (tgt := 425) C dX12_operand_417 (by decide) g58 (fun c => ?_) (fun c => ?_)
                        · have h := ht c
                          refine g_iconst C dX12_operand_425 rfl ?_
                          refine G.sub [0] rfl ?_
                          exact w_X12_operand_J426 C hR  h
                        · have h := hf c
                          refine g_bipush (v := 7) C dX12_operand_420 (by decide +kernel) ?_
                          refine g_goto (tgt := 426) C dX12_operand_422 (by decide) ?_
                          refine G.sub [0] rfl ?_
                          exact w_X12_operand_J426 C hR  h
                      · have h := hf c
                        refine g_bipush (v := 6) C dX12_operand_405 (by decide +kernel) ?_
                        refine g_goto (tgt := 426) C dX12_operand_407 (by decide) ?_
                        refine G.sub [0] rfl ?_
                        exact w_X12_operand_J426 C hR  h
                    · have h := hf c
                      refine g_iconst C dX12_operand_391 rfl ?_
                      refine g_goto (tgt := 426) C dX12_operand_392 (by decide) ?_
                      refine G.sub [0] rfl ?_
                      exact w_X12_operand_J426 C hR  h
                  · have h := hf c
                    refine g_iconst C dX12_operand_377 rfl ?_
                    refine g_goto (tgt := 426) C dX12_operand_378 (by decide) ?_
                    refine G.sub [0] rfl ?_
                    exact w_X12_operand_J426 C hR  h
                · have h := hf c
                  refine g_iconst C dX12_operand_363 rfl ?_
                  refine g_goto (tgt := 426) C dX12_operand_364 (by decide) ?_
                  refine G.sub [0] rfl ?_
                  exact w_X12_operand_J426 C hR  h
              · have h := hf c
                refine g_iconst C dX12_operand_349 rfl ?_
                refine g_goto (tgt := 426) C dX12_operand_350 (by decide) ?_
                refine G.sub [0] rfl ?_
                exact w_X12_operand_J426 C hR  h
            · have h := hf c
              refine g_iconst C dX12_operand_335 rfl ?_
              refine g_goto (tgt := 426) C dX12_operand_336 (by decide) ?_
              refine G.sub [0] rfl ?_
              exact w_X12_operand_J426 C hR  h
          · have h := ht c
            refine g_iconst C dX12_operand_321 rfl ?_
            refine g_goto (tgt := 426) C dX12_operand_322 (by decide) ?_
            refine G.sub [0] rfl ?_
            exact w_X12_operand_J426 C hR  h
        · have h := hf c
          refine G.sub [0] rfl ?_
          exact w_X12_operand_J217 C hR  h
  · have h := hf c
    refine g_aload_n (q := 0) C dX12_operand_180 rfl rfl ?_
    refine g_iconst C dX12_operand_181 rfl ?_
    refine g_cVv (As := [vI 2]) C clX12_323 clvX12_opens dX12_operand_182 kd_199 rfl (Nat.le_of_ble_eq_true rfl) rfl (by decide) (t_X12_opens (Cx.ok C) h) (fun M59 h => ?_)
    refine g_iconst C dX12_operand_185 rfl ?_
    exact g_retz C hR dX12_operand_186 (by decide) h
set_option maxRecDepth 20000 in
theorem w_X12_operand_J137 {Y : YT} {X : CX} (C : Cx Y X cX12_operand 4 RX12 4) {Q : Int → Mem → Prop} (hR : Rt Y X (some .boolean) (PQi Y Q)) {v1 : Int} {v2 : Int}  {M : Mem}  (h : m_X12_operand_J137  Q v1 v2 M) : G Y X 4 137 [(0, vR Y 199), (1, vI v1), (2, vI v2)] ([]) M := by
  unfold m_X12_operand_J137 at h
  refine g_iload_n (q := 2) C dX12_operand_137 rfl rfl ?_
  obtain ⟨g60, h⟩ := h
  obtain ⟨ht, hf⟩ := h
  refine g_if_eq (tgt := 171) C dX12_operand_138 (by decide) g60 (fun c => ?_) (fun c => ?_)
  · have h := ht c
    refine G.sub [0] rfl ?_
    exact w_X12_operand_J171 C hR  h
  · have h := hf c
    refine g_aload_n (q := 0) C dX12_operand_141 rfl rfl ?_
    refine g_ldc2 (v := 6384748) C dX12_operand_142 kX12_286 (by decide +kernel) ?_
    refine g_cVi (As := [vL 6384748]) C clX12_316 clvX12_isWord dX12_operand_145 kd_199 rfl (Nat.le_of_ble_eq_true rfl) rfl (by decide) (t_X12_isWord (Cx.ok C) h) (fun r62 M61 h => ?_)
    obtain ⟨g63, h⟩ := h
    obtain ⟨ht, hf⟩ := h
    refine g_if_eq (tgt := 171) C dX12_operand_148 (by decide) g63 (fun c => ?_) (fun c => ?_)
    · have h := ht c
      refine G.sub [0] rfl ?_
      exact w_X12_operand_J171 C hR  h
    · have h := hf c
      refine g_aload_n (q := 0) C dX12_operand_151 rfl rfl ?_
      refine g_bipush (v := 30) C dX12_operand_152 (by decide +kernel) ?_
      refine g_iconst C dX12_operand_154 rfl ?_
      refine g_cVv (As := [vI 30, vI 0]) C clX12_307 clvX12_add dX12_operand_155 kd_199 rfl (Nat.le_of_ble_eq_true rfl) rfl (by decide) (t_X12_add (Cx.ok C) h) (fun M64 h => ?_)
      refine g_aload_n (q := 0) C dX12_operand_158 rfl rfl ?_
      refine g_getS (v := 221) C fX12_125 dX12_operand_159 kd_199 rfl ?_
      refine g_iload_n (q := 1) C dX12_operand_162 rfl rfl ?_
      refine g_iconst C dX12_operand_163 rfl ?_
      obtain ⟨g65, h⟩ := h
      obtain ⟨M66, e_M66⟩ : ∃ z : Mem, z = up M64 221 v1 2 := ⟨_, rfl⟩
      have h := h M66 e_M66
      refine g_iast C dX12_operand_164 kd_221 ln_221 g65 e_M66 ?_
      refine g_aload_n (q := 0) C dX12_operand_165 rfl rfl ?_
      refine g_cVv (As := []) C clX12_241 clvX12_ahead dX12_operand_166 kd_199 rfl (Nat.le_of_ble_eq_true rfl) rfl (by decide) (t_X12_ahead (Cx.ok C) h) (fun M67 h => ?_)
      refine g_iconst C dX12_operand_169 rfl ?_
      exact g_retz C hR dX12_operand_170 (by decide) h
set_option maxRecDepth 20000 in
theorem w_X12_operand_J110 {Y : YT} {X : CX} (C : Cx Y X cX12_operand 4 RX12 4) {Q : Int → Mem → Prop} (hR : Rt Y X (some .boolean) (PQi Y Q)) {v1 : Int} {v2 : Int}  {M : Mem}  (h : m_X12_operand_J110  Q v1 v2 M) : G Y X 4 110 [(0, vR Y 199), (1, vI v1), (2, vI v2)] ([]) M := by
  unfold m_X12_operand_J110 at h
  refine g_aload_n (q := 0) C dX12_operand_110 rfl rfl ?_
  refine g_getS (v := 222) C fX12_128 dX12_operand_111 kd_199 rfl ?_
  refine g_iload_n (q := 1) C dX12_operand_114 rfl rfl ?_
  refine g_iconst C dX12_operand_115 rfl ?_
  obtain ⟨g68, h⟩ := h
  obtain ⟨M69, e_M69⟩ : ∃ z : Mem, z = up M 222 v1 0 := ⟨_, rfl⟩
  have h := h M69 e_M69
  refine g_zast C dX12_operand_116 kd_222 ln_222 g68 (by decide) e_M69 ?_
  refine g_iload_n (q := 2) C dX12_operand_117 rfl rfl ?_
  obtain ⟨g70, h⟩ := h
  obtain ⟨ht, hf⟩ := h
  refine g_if_eq (tgt := 137) C dX12_operand_118 (by decide) g70 (fun c => ?_) (fun c => ?_)
  · have h := ht c
    refine G.sub [0, 1, 2] rfl ?_
    exact w_X12_operand_J137 C hR  h
  · have h := hf c
    refine g_aload_n (q := 0) C dX12_operand_121 rfl rfl ?_
    refine g_bipush (v := 91) C dX12_operand_122 (by decide +kernel) ?_
    refine g_cVi (As := [vI 91]) C clX12_238 clvX12_isSign dX12_operand_124 kd_199 rfl (Nat.le_of_ble_eq_true rfl) rfl (by decide) (t_X12_isSign (Cx.ok C) h) (fun r72 M71 h => ?_)
    obtain ⟨g73, h⟩ := h
    obtain ⟨ht, hf⟩ := h
    refine g_if_eq (tgt := 137) C dX12_operand_127 (by decide) g73 (fun c => ?_) (fun c => ?_)
    · have h := ht c
      refine G.sub [0, 1, 2] rfl ?_
      exact w_X12_operand_J137 C hR  h
    · have h := hf c
      refine g_aload_n (q := 0) C dX12_operand_130 rfl rfl ?_
      refine g_iconst C dX12_operand_131 rfl ?_
      refine g_cVv (As := [vI 5]) C clX12_323 clvX12_opens dX12_operand_132 kd_199 rfl (Nat.le_of_ble_eq_true rfl) rfl (by decide) (t_X12_opens (Cx.ok C) h) (fun M74 h => ?_)
      refine g_iconst C dX12_operand_135 rfl ?_
      exact g_retz C hR dX12_operand_136 (by decide) h
set_option maxRecDepth 20000 in
theorem w_X12_operand_J79 {Y : YT} {X : CX} (C : Cx Y X cX12_operand 4 RX12 4) {Q : Int → Mem → Prop} (hR : Rt Y X (some .boolean) (PQi Y Q))   {M : Mem}  (h : m_X12_operand_J79  Q  M) : G Y X 4 79 [(0, vR Y 199)] ([]) M := by
  unfold m_X12_operand_J79 at h
  refine g_aload_n (q := 0) C dX12_operand_79 rfl rfl ?_
  refine g_getI C fX12_36 (by decide) dX12_operand_80 kd_199 ?_
  obtain ⟨g75, h⟩ := h
  obtain ⟨ht, hf⟩ := h
  refine g_if_le (tgt := 88) C dX12_operand_83 (by decide) g75 (fun c => ?_) (fun c => ?_)
  · have h := ht c
    refine g_aload_n (q := 0) C dX12_operand_88 rfl rfl ?_
    refine g_dup C dX12_operand_89 rfl ?_
    refine g_getI C fX12_141 (by decide) dX12_operand_90 kd_199 ?_
    refine g_iconst C dX12_operand_93 rfl ?_
    refine g_iadd C dX12_operand_94 ?_
    obtain ⟨M76, e_M76⟩ : ∃ z : Mem, z = up M 199 42 ((M 199 42) + 1) := ⟨_, rfl⟩
    have h := h M76 e_M76
    refine g_putI C fX12_141 pX12_141 dX12_operand_95 kd_199 e_M76 ?_
    refine g_aload_n (q := 0) C dX12_operand_98 rfl rfl ?_
    refine g_bipush (v := 43) C dX12_operand_99 (by decide +kernel) ?_
    refine g_cVv (As := [vI 43]) C clX12_320 clvX12_holdsBack dX12_operand_101 kd_199 rfl (Nat.le_of_ble_eq_true rfl) rfl (by decide) (t_X12_holdsBack (Cx.ok C) h) (fun M77 h => ?_)
    refine g_aload_n (q := 0) C dX12_operand_104 rfl rfl ?_
    refine g_cVv (As := []) C clX12_241 clvX12_ahead dX12_operand_105 kd_199 rfl (Nat.le_of_ble_eq_true rfl) rfl (by decide) (t_X12_ahead (Cx.ok C) h) (fun M78 h => ?_)
    refine g_iconst C dX12_operand_108 rfl ?_
    exact g_retz C hR dX12_operand_109 (by decide) h
  · have h := hf c
    refine g_iconst C dX12_operand_86 rfl ?_
    exact g_retz C hR dX12_operand_87 (by decide) h
set_option maxRecDepth 20000 in
theorem w_X12_operand_J46 {Y : YT} {X : CX} (C : Cx Y X cX12_operand 4 RX12 4) {Q : Int → Mem → Prop} (hR : Rt Y X (some .boolean) (PQi Y Q)) {v1 : Int} {s0 : Int}  {M : Mem}  (h : m_X12_operand_J46  Q v1 s0 M) : G Y X 4 46 [(0, vR Y 199), (1, vI v1)] ((vI s0) :: []) M := by
  unfold m_X12_operand_J46 at h
  refine g_istore_n (lv' := [(2, vI s0), (0, vR Y 199), (1, vI v1)]) C dX12_operand_46 rfl (by decide) rfl ?_
  refine g_iload_n (q := 0) C dX12_operand_47 rfl rfl ?_
  obtain ⟨g79, h⟩ := h
  obtain ⟨ht, hf⟩ := h
  refine g_if_eq (tgt := 110) C dX12_operand_48 (by decide) g79 (fun c => ?_) (fun c => ?_)
  · have h := ht c
    refine G.sub [1, 2, 0] rfl ?_
    exact w_X12_operand_J110 C hR  h
  · have h := hf c
    refine g_aload_n (q := 1) C dX12_operand_51 rfl rfl ?_
    refine g_ldc2 (v := 7237492) C dX12_operand_52 kX12_284 (by decide +kernel) ?_
    refine g_cVi (As := [vL 7237492]) C clX12_316 clvX12_isWord dX12_operand_55 kd_199 rfl (Nat.le_of_ble_eq_true rfl) rfl (by decide) (t_X12_isWord (Cx.ok C) h) (fun r81 M80 h => ?_)
    obtain ⟨g82, h⟩ := h
    obtain ⟨ht, hf⟩ := h
    refine g_if_eq (tgt := 110) C dX12_operand_58 (by decide) g82 (fun c => ?_) (fun c => ?_)
    · have h := ht c
      refine G.sub [1, 2, 0] rfl ?_
      exact w_X12_operand_J110 C hR  h
    · have h := hf c
      refine g_aload_n (q := 1) C dX12_operand_61 rfl rfl ?_
      refine g_getI C fX12_141 (by decide) dX12_operand_62 kd_199 ?_
      refine g_bipush (v := 7) C dX12_operand_65 (by decide +kernel) ?_
      obtain ⟨g83, h⟩ := h
      obtain ⟨ht, hf⟩ := h
      refine g_icmp_ne (tgt := 79) C dX12_operand_67 (by decide) g83 (by decide) (fun c => ?_) (fun c => ?_)
      · have h := hf c
        refine G.sub [1] rfl ?_
        exact w_X12_operand_J79 C hR  h
      · have h := ht c
        refine g_aload_n (q := 1) C dX12_operand_70 rfl rfl ?_
        refine g_iconst C dX12_operand_71 rfl ?_
        refine g_aload_n (q := 1) C dX12_operand_72 rfl rfl ?_
        refine g_getI C fX12_23 (by decide) dX12_operand_73 kd_199 ?_
        refine g_cVv (As := [vI 5, vI (M80 199 4)]) C clX12_224 clvX12_blame dX12_operand_76 kd_199 rfl (Nat.le_of_ble_eq_true rfl) rfl (by decide) (t_X12_blame (Cx.ok C) h) (fun M84 h => ?_)
        refine G.sub [1] rfl ?_
        exact w_X12_operand_J79 C hR  h
set_option maxRecDepth 20000 in
theorem w_X12_operand_J45 {Y : YT} {X : CX} (C : Cx Y X cX12_operand 4 RX12 4) {Q : Int → Mem → Prop} (hR : Rt Y X (some .boolean) (PQi Y Q)) {v1 : Int}  {M : Mem}  (h : m_X12_operand_J45  Q v1 M) : G Y X 4 45 [(0, vR Y 199), (1, vI v1)] ([]) M := by
  unfold m_X12_operand_J45 at h
  refine g_iconst C dX12_operand_45 rfl ?_
  refine G.sub [0, 1] rfl ?_
  exact w_X12_operand_J46 C hR  h
set_option maxRecDepth 20000 in
theorem t_X12_operand {l : Launch} {Y : YT} (hY : YOK Y) {M : Mem} {Q : Int → Mem → Prop} (h : m_X12_operand  M Q) : Ctr l Y yX12_operand cX12_operand 4 (some .boolean) 4 [vR Y 199] M (PQi Y Q) := by
  unfold m_X12_operand at h
  refine ctr_ofF hY (by decide +kernel) (Nat.le_of_ble_eq_true rfl) [(0, vR Y 199)] rfl (fun X hX C hR => ?_)
  refine g_aload_n (q := 0) C dX12_operand_0 rfl rfl ?_
  refine g_cVv (As := []) C clX12_235 clvX12_lex dX12_operand_1 kd_199 rfl (Nat.le_of_ble_eq_true rfl) rfl (by decide) (t_X12_lex (Cx.ok C) h) (fun M85 h => ?_)
  refine g_aload_n (q := 0) C dX12_operand_4 rfl rfl ?_
  refine g_getI C fX12_36 (by decide) dX12_operand_5 kd_199 ?_
  obtain ⟨g86, h⟩ := h
  obtain ⟨ht, hf⟩ := h
  refine g_if_le (tgt := 13) C dX12_operand_8 (by decide) g86 (fun c => ?_) (fun c => ?_)
  · have h := ht c
    refine g_aload_n (q := 0) C dX12_operand_13 rfl rfl ?_
    refine g_getI C fX12_138 (by decide) dX12_operand_14 kd_199 ?_
    refine g_iconst C dX12_operand_17 rfl ?_
    refine g_isub C dX12_operand_18 ?_
    refine g_istore_n (lv' := [(1, vI ((M85 199 41) - 1)), (0, vR Y 199)]) C dX12_operand_19 rfl (by decide) rfl ?_
    refine g_aload_n (q := 1) C dX12_operand_20 rfl rfl ?_
    refine g_getS (v := 220) C fX12_122 dX12_operand_21 kd_199 rfl ?_
    refine g_iload_n (q := 0) C dX12_operand_24 rfl rfl ?_
    obtain ⟨g87, h⟩ := h
    refine g_iald C dX12_operand_25 kd_220 ln_220 g87 ?_
    refine g_cSi (As := [vI (M85 220 ((M85 199 41) - 1))]) C clX12_313 clsX12_isTest dX12_operand_26 rfl (Nat.le_of_ble_eq_true rfl) rfl (by decide) (t_X12_isTest (Cx.ok C) h) (fun r89 M88 h => ?_)
    obtain ⟨g90, h⟩ := h
    obtain ⟨ht, hf⟩ := h
    refine g_if_eq (tgt := 45) C dX12_operand_29 (by decide) g90 (fun c => ?_) (fun c => ?_)
    · have h := ht c
      refine G.sub [1, 0] rfl ?_
      exact w_X12_operand_J45 C hR  h
    · have h := hf c
      refine g_aload_n (q := 1) C dX12_operand_32 rfl rfl ?_
      refine g_getS (v := 222) C fX12_128 dX12_operand_33 kd_199 rfl ?_
      refine g_iload_n (q := 0) C dX12_operand_36 rfl rfl ?_
      obtain ⟨g91, h⟩ := h
      refine g_zald C dX12_operand_37 kd_222 ln_222 g91 ?_
      obtain ⟨g92, h⟩ := h
      obtain ⟨ht, hf⟩ := h
      refine g_if_eq (tgt := 45) C dX12_operand_38 (by decide) g92 (fun c => ?_) (fun c => ?_)
      · have h := ht c
        refine G.sub [1, 0] rfl ?_
        exact w_X12_operand_J45 C hR  h
      · have h := hf c
        refine g_iconst C dX12_operand_41 rfl ?_
        refine g_goto (tgt := 46) C dX12_operand_42 (by decide) ?_
        refine G.sub [1, 0] rfl ?_
        exact w_X12_operand_J46 C hR  h
  · have h := hf c
    refine g_iconst C dX12_operand_11 rfl ?_
    exact g_retz C hR dX12_operand_12 (by decide) h
set_option maxRecDepth 20000 in
theorem w_X12_goesOn_J613 {Y : YT} {X : CX} (C : Cx Y X cX12_goesOn 5 RX12 3) {Q : Int → Mem → Prop} (hR : Rt Y X (some .boolean) (PQi Y Q))   {M : Mem}  (h : m_X12_goesOn_J613  Q  M) : G Y X 5 613 [(0, vR Y 199)] ([]) M := by
  unfold m_X12_goesOn_J613 at h
  refine g_aload_n (q := 0) C dX12_goesOn_613 rfl rfl ?_
  refine g_cVv (As := []) C clX12_241 clvX12_ahead dX12_goesOn_614 kd_199 rfl (Nat.le_of_ble_eq_true rfl) rfl (by decide) (t_X12_ahead (Cx.ok C) h) (fun M1 h => ?_)
  refine g_iconst C dX12_goesOn_617 rfl ?_
  exact g_retz C hR dX12_goesOn_618 (by decide) h
set_option maxRecDepth 20000 in
theorem w_X12_goesOn_J596 {Y : YT} {X : CX} (C : Cx Y X cX12_goesOn 5 RX12 3) {Q : Int → Mem → Prop} (hR : Rt Y X (some .boolean) (PQi Y Q)) {v2 : Int}  {M : Mem}  (h : m_X12_goesOn_J596  Q v2 M) : G Y X 5 596 [(0, vR Y 199), (2, vI v2)] ([]) M := by
  unfold m_X12_goesOn_J596 at h
  refine g_iload_n (q := 1) C dX12_goesOn_596 rfl rfl ?_
  refine g_iconst C dX12_goesOn_597 rfl ?_
  obtain ⟨g2, h⟩ := h
  obtain ⟨ht, hf⟩ := h
  refine g_icmp_ne (tgt := 613) C dX12_goesOn_598 (by decide) g2 (by decide) (fun c => ?_) (fun c => ?_)
  · have h := hf c
    refine G.sub [0] rfl ?_
    exact w_X12_goesOn_J613 C hR  h
  · have h := ht c
    refine g_aload_n (q := 0) C dX12_goesOn_601 rfl rfl ?_
    refine g_getS (v := 221) C fX12_125 dX12_goesOn_602 kd_199 rfl ?_
    refine g_aload_n (q := 0) C dX12_goesOn_605 rfl rfl ?_
    refine g_getI C fX12_138 (by decide) dX12_goesOn_606 kd_199 ?_
    refine g_iconst C dX12_goesOn_609 rfl ?_
    refine g_isub C dX12_goesOn_610 ?_
    refine g_iconst C dX12_goesOn_611 rfl ?_
    obtain ⟨g3, h⟩ := h
    obtain ⟨M4, e_M4⟩ : ∃ z : Mem, z = up M 221 ((M 199 41) - 1) 2 := ⟨_, rfl⟩
    have h := h M4 e_M4
    refine g_iast C dX12_goesOn_612 kd_221 ln_221 g3 e_M4 ?_
    refine G.sub [0] rfl ?_
    exact w_X12_goesOn_J613 C hR  h
set_option maxRecDepth 20000 in
theorem w_X12_goesOn_J546 {Y : YT} {X : CX} (C : Cx Y X cX12_goesOn 5 RX12 3) {Q : Int → Mem → Prop} (hR : Rt Y X (some .boolean) (PQi Y Q)) {v1 : Int} {v2 : Int}  {M : Mem}  (h : m_X12_goesOn_J546  Q v1 v2 M) : G Y X 5 546 [(0, vR Y 199), (1, vI v1), (2, vI v2)] ([]) M := by
  unfold m_X12_goesOn_J546 at h
  refine g_aload_n (q := 0) C dX12_goesOn_546 rfl rfl ?_
  refine g_getI C fX12_36 (by decide) dX12_goesOn_547 kd_199 ?_
  obtain ⟨g5, h⟩ := h
  obtain ⟨ht, hf⟩ := h
  refine g_if_le (tgt := 555) C dX12_goesOn_550 (by decide) g5 (fun c => ?_) (fun c => ?_)
  · have h := ht c
    refine g_aload_n (q := 0) C dX12_goesOn_555 rfl rfl ?_
    refine g_iconst C dX12_goesOn_556 rfl ?_
    refine g_cVv (As := [vI 1]) C clX12_326 clvX12_joins dX12_goesOn_557 kd_199 rfl (Nat.le_of_ble_eq_true rfl) rfl (by decide) (t_X12_joins (Cx.ok C) h) (fun M6 h => ?_)
    refine g_aload_n (q := 0) C dX12_goesOn_560 rfl rfl ?_
    refine g_dup C dX12_goesOn_561 rfl ?_
    refine g_getI C fX12_138 (by decide) dX12_goesOn_562 kd_199 ?_
    refine g_iconst C dX12_goesOn_565 rfl ?_
    refine g_isub C dX12_goesOn_566 ?_
    obtain ⟨M7, e_M7⟩ : ∃ z : Mem, z = up M6 199 41 ((M6 199 41) - 1) := ⟨_, rfl⟩
    have h := h M7 e_M7
    refine g_putI C fX12_138 pX12_138 dX12_goesOn_567 kd_199 e_M7 ?_
    refine g_aload_n (q := 0) C dX12_goesOn_570 rfl rfl ?_
    refine g_dup C dX12_goesOn_571 rfl ?_
    refine g_getI C fX12_141 (by decide) dX12_goesOn_572 kd_199 ?_
    refine g_iconst C dX12_goesOn_575 rfl ?_
    refine g_isub C dX12_goesOn_576 ?_
    obtain ⟨M8, e_M8⟩ : ∃ z : Mem, z = up M7 199 42 ((M7 199 42) - 1) := ⟨_, rfl⟩
    have h := h M8 e_M8
    refine g_putI C fX12_141 pX12_141 dX12_goesOn_577 kd_199 e_M8 ?_
    refine g_iload_n (q := 2) C dX12_goesOn_580 rfl rfl ?_
    refine g_iconst C dX12_goesOn_581 rfl ?_
    obtain ⟨g9, h⟩ := h
    obtain ⟨ht, hf⟩ := h
    refine g_icmp_ne (tgt := 596) C dX12_goesOn_582 (by decide) g9 (by decide) (fun c => ?_) (fun c => ?_)
    · have h := hf c
      refine G.sub [0, 2] rfl ?_
      exact w_X12_goesOn_J596 C hR  h
    · have h := ht c
      refine g_aload_n (q := 0) C dX12_goesOn_585 rfl rfl ?_
      refine g_aload_n (q := 0) C dX12_goesOn_586 rfl rfl ?_
      refine g_getS (v := 223) C fX12_132 dX12_goesOn_587 kd_199 rfl ?_
      refine g_iload_n (q := 1) C dX12_goesOn_590 rfl rfl ?_
      obtain ⟨g10, h⟩ := h
      refine g_iald C dX12_goesOn_591 kd_223 ln_223 g10 ?_
      refine g_iconst C dX12_goesOn_592 rfl ?_
      refine g_cVv (As := [vI (M8 223 v1), vI 0]) C clX12_307 clvX12_add dX12_goesOn_593 kd_199 rfl (Nat.le_of_ble_eq_true rfl) rfl (by decide) (t_X12_add (Cx.ok C) h) (fun M11 h => ?_)
      refine G.sub [0, 2] rfl ?_
      exact w_X12_goesOn_J596 C hR  h
  · have h := hf c
    refine g_iconst C dX12_goesOn_553 rfl ?_
    exact g_retz C hR dX12_goesOn_554 (by decide) h
set_option maxRecDepth 20000 in
theorem w_X12_goesOn_J531 {Y : YT} {X : CX} (C : Cx Y X cX12_goesOn 5 RX12 3) {Q : Int → Mem → Prop} (hR : Rt Y X (some .boolean) (PQi Y Q)) {v1 : Int} {v2 : Int} {s1 : Int}  {M : Mem}  (h : m_X12_goesOn_J531  Q v1 v2 s1 M) : G Y X 5 531 [(0, vR Y 199), (1, vI v1), (2, vI v2)] ((vI s1) :: (vR Y 199) :: []) M := by
  unfold m_X12_goesOn_J531 at h
  refine g_cVi (As := [vI s1]) C clX12_238 clvX12_isSign dX12_goesOn_531 kd_199 rfl (Nat.le_of_ble_eq_true rfl) rfl (by decide) (t_X12_isSign (Cx.ok C) h) (fun r13 M12 h => ?_)
  obtain ⟨g14, h⟩ := h
  obtain ⟨ht, hf⟩ := h
  refine g_if_ne (tgt := 546) C dX12_goesOn_534 (by decide) g14 (fun c => ?_) (fun c => ?_)
  · have h := hf c
    refine G.sub [0, 1, 2] rfl ?_
    exact w_X12_goesOn_J546 C hR  h
  · have h := ht c
    refine g_aload_n (q := 0) C dX12_goesOn_537 rfl rfl ?_
    refine g_iconst C dX12_goesOn_538 rfl ?_
    refine g_aload_n (q := 0) C dX12_goesOn_539 rfl rfl ?_
    refine g_getI C fX12_23 (by decide) dX12_goesOn_540 kd_199 ?_
    refine g_cVv (As := [vI 1, vI (M12 199 4)]) C clX12_224 clvX12_blame dX12_goesOn_543 kd_199 rfl (Nat.le_of_ble_eq_true rfl) rfl (by decide) (t_X12_blame (Cx.ok C) h) (fun M15 h => ?_)
    refine G.sub [0, 1, 2] rfl ?_
    exact w_X12_goesOn_J546 C hR  h
set_option maxRecDepth 20000 in
theorem w_X12_goesOn_J499 {Y : YT} {X : CX} (C : Cx Y X cX12_goesOn 5 RX12 3) {Q : Int → Mem → Prop} (hR : Rt Y X (some .boolean) (PQi Y Q)) {v1 : Int} {s0 : Int} {s1 : Int} {s2 : Int}  {M : Mem} (hk_s0 : kd s0 = 20) (h : m_X12_goesOn_J499  Q v1 s0 s1 s2 M) : G Y X 5 499 [(0, vR Y 199), (1, vI v1)] ((vI s2) :: (vI s1) :: (vR Y s0) :: []) M := by
  unfold m_X12_goesOn_J499 at h
  obtain ⟨g16, h⟩ := h
  obtain ⟨M17, e_M17⟩ : ∃ z : Mem, z = up M s0 s1 s2 := ⟨_, rfl⟩
  have h := h M17 e_M17
  refine g_iast C dX12_goesOn_499 hk_s0 rfl g16 e_M17 ?_
  refine g_aload_n (q := 0) C dX12_goesOn_500 rfl rfl ?_
  refine g_getS (v := 221) C fX12_125 dX12_goesOn_501 kd_199 rfl ?_
  refine g_iload_n (q := 1) C dX12_goesOn_504 rfl rfl ?_
  refine g_iconst C dX12_goesOn_505 rfl ?_
  obtain ⟨g18, h⟩ := h
  obtain ⟨M19, e_M19⟩ : ∃ z : Mem, z = up M17 221 v1 0 := ⟨_, rfl⟩
  have h := h M19 e_M19
  refine g_iast C dX12_goesOn_506 kd_221 ln_221 g18 e_M19 ?_
  refine g_aload_n (q := 0) C dX12_goesOn_507 rfl rfl ?_
  refine g_cVv (As := []) C clX12_241 clvX12_ahead dX12_goesOn_508 kd_199 rfl (Nat.le_of_ble_eq_true rfl) rfl (by decide) (t_X12_ahead (Cx.ok C) h) (fun M20 h => ?_)
  refine g_aload_n (q := 0) C dX12_goesOn_511 rfl rfl ?_
  refine g_iconst C dX12_goesOn_512 rfl ?_
  obtain ⟨M21, e_M21⟩ : ∃ z : Mem, z = up M20 199 45 0 := ⟨_, rfl⟩
  have h := h M21 e_M21
  refine g_putZ C fX12_150 pX12_150 dX12_goesOn_513 kd_199 (by decide) e_M21 ?_
  refine g_iconst C dX12_goesOn_516 rfl ?_
  exact g_retz C hR dX12_goesOn_517 (by decide) h
set_option maxRecDepth 20000 in
theorem w_X12_goesOn_J470 {Y : YT} {X : CX} (C : Cx Y X cX12_goesOn 5 RX12 3) {Q : Int → Mem → Prop} (hR : Rt Y X (some .boolean) (PQi Y Q)) {v1 : Int} {v2 : Int}  {M : Mem}  (h : m_X12_goesOn_J470  Q v1 v2 M) : G Y X 5 470 [(0, vR Y 199), (1, vI v1), (2, vI v2)] ([]) M := by
  unfold m_X12_goesOn_J470 at h
  refine g_aload_n (q := 0) C dX12_goesOn_470 rfl rfl ?_
  refine g_getI C fX12_36 (by decide) dX12_goesOn_471 kd_199 ?_
  obtain ⟨g22, h⟩ := h
  obtain ⟨ht, hf⟩ := h
  refine g_if_le (tgt := 479) C dX12_goesOn_474 (by decide) g22 (fun c => ?_) (fun c => ?_)
  · have h := ht c
    refine g_aload_n (q := 0) C dX12_goesOn_479 rfl rfl ?_
    refine g_iconst C dX12_goesOn_480 rfl ?_
    refine g_cVv (As := [vI 1]) C clX12_326 clvX12_joins dX12_goesOn_481 kd_199 rfl (Nat.le_of_ble_eq_true rfl) rfl (by decide) (t_X12_joins (Cx.ok C) h) (fun M23 h => ?_)
    refine g_aload_n (q := 0) C dX12_goesOn_484 rfl rfl ?_
    refine g_getS (v := 220) C fX12_122 dX12_goesOn_485 kd_199 rfl ?_
    refine g_iload_n (q := 1) C dX12_goesOn_488 rfl rfl ?_
    refine g_iload_n (q := 2) C dX12_goesOn_489 rfl rfl ?_
    refine g_iconst C dX12_goesOn_490 rfl ?_
    obtain ⟨g24, h⟩ := h
    obtain ⟨ht, hf⟩ := h
    refine g_icmp_ne (tgt := 498) C dX12_goesOn_491 (by decide) g24 (by decide) (fun c => ?_) (fun c => ?_)
    · have h := hf c
      refine g_iconst C dX12_goesOn_498 rfl ?_
      refine G.sub [0, 1] rfl ?_
      exact w_X12_goesOn_J499 C hR kd_220 h
    · have h := ht c
      refine g_iconst C dX12_goesOn_494 rfl ?_
      refine g_goto (tgt := 499) C dX12_goesOn_495 (by decide) ?_
      refine G.sub [0, 1] rfl ?_
      exact w_X12_goesOn_J499 C hR kd_220 h
  · have h := hf c
    refine g_iconst C dX12_goesOn_477 rfl ?_
    exact g_retz C hR dX12_goesOn_478 (by decide) h
set_option maxRecDepth 20000 in
theorem w_X12_goesOn_J452 {Y : YT} {X : CX} (C : Cx Y X cX12_goesOn 5 RX12 3) {Q : Int → Mem → Prop} (hR : Rt Y X (some .boolean) (PQi Y Q)) {v1 : Int} {v2 : Int}  {M : Mem}  (h : m_X12_goesOn_J452  Q v1 v2 M) : G Y X 5 452 [(0, vR Y 199), (1, vI v1), (2, vI v2)] ([]) M := by
  unfold m_X12_goesOn_J452 at h
  refine g_aload_n (q := 0) C dX12_goesOn_452 rfl rfl ?_
  refine g_bipush (v := 44) C dX12_goesOn_453 (by decide +kernel) ?_
  refine g_cVi (As := [vI 44]) C clX12_238 clvX12_isSign dX12_goesOn_455 kd_199 rfl (Nat.le_of_ble_eq_true rfl) rfl (by decide) (t_X12_isSign (Cx.ok C) h) (fun r26 M25 h => ?_)
  obtain ⟨g27, h⟩ := h
  obtain ⟨ht, hf⟩ := h
  refine g_if_ne (tgt := 470) C dX12_goesOn_458 (by decide) g27 (fun c => ?_) (fun c => ?_)
  · have h := hf c
    refine G.sub [0, 1, 2] rfl ?_
    exact w_X12_goesOn_J470 C hR  h
  · have h := ht c
    refine g_aload_n (q := 0) C dX12_goesOn_461 rfl rfl ?_
    refine g_iconst C dX12_goesOn_462 rfl ?_
    refine g_aload_n (q := 0) C dX12_goesOn_463 rfl rfl ?_
    refine g_getI C fX12_23 (by decide) dX12_goesOn_464 kd_199 ?_
    refine g_cVv (As := [vI 1, vI (M25 199 4)]) C clX12_224 clvX12_blame dX12_goesOn_467 kd_199 rfl (Nat.le_of_ble_eq_true rfl) rfl (by decide) (t_X12_blame (Cx.ok C) h) (fun M28 h => ?_)
    refine G.sub [0, 1, 2] rfl ?_
    exact w_X12_goesOn_J470 C hR  h
set_option maxRecDepth 20000 in
theorem w_X12_goesOn_J439 {Y : YT} {X : CX} (C : Cx Y X cX12_goesOn 5 RX12 3) {Q : Int → Mem → Prop} (hR : Rt Y X (some .boolean) (PQi Y Q))   {M : Mem}  (h : m_X12_goesOn_J439  Q  M) : G Y X 5 439 [] ([]) M := by
  unfold m_X12_goesOn_J439 at h
  refine g_iconst C dX12_goesOn_439 rfl ?_
  exact g_retz C hR dX12_goesOn_440 (by decide) h
set_option maxRecDepth 20000 in
theorem w_X12_goesOn_J422 {Y : YT} {X : CX} (C : Cx Y X cX12_goesOn 5 RX12 3) {Q : Int → Mem → Prop} (hR : Rt Y X (some .boolean) (PQi Y Q)) {v1 : Int} {v2 : Int}  {M : Mem}  (h : m_X12_goesOn_J422  Q v1 v2 M) : G Y X 5 422 [(0, vR Y 199), (1, vI v1), (2, vI v2)] ([]) M := by
  unfold m_X12_goesOn_J422 at h
  refine g_iload_n (q := 2) C dX12_goesOn_422 rfl rfl ?_
  refine g_iconst C dX12_goesOn_423 rfl ?_
  obtain ⟨g29, h⟩ := h
  obtain ⟨ht, hf⟩ := h
  refine g_icmp_ge (tgt := 441) C dX12_goesOn_424 (by decide) g29 (by decide) (fun c => ?_) (fun c => ?_)
  · have h := ht c
    refine g_iload_n (q := 2) C dX12_goesOn_441 rfl rfl ?_
    refine g_iconst C dX12_goesOn_442 rfl ?_
    obtain ⟨g30, h⟩ := h
    obtain ⟨ht, hf⟩ := h
    refine g_icmp_eq (tgt := 452) C dX12_goesOn_443 (by decide) g30 (by decide) (fun c => ?_) (fun c => ?_)
    · have h := ht c
      refine G.sub [0, 1, 2] rfl ?_
      exact w_X12_goesOn_J452 C hR  h
    · have h := hf c
      refine g_iload_n (q := 2) C dX12_goesOn_446 rfl rfl ?_
      refine g_bipush (v := 6) C dX12_goesOn_447 (by decide +kernel) ?_
      obtain ⟨g31, h⟩ := h
      obtain ⟨ht, hf⟩ := h
      refine g_icmp_ne (tgt := 518) C dX12_goesOn_449 (by decide) g31 (by decide) (fun c => ?_) (fun c => ?_)
      · have h := hf c
        refine g_aload_n (q := 0) C dX12_goesOn_518 rfl rfl ?_
        refine g_iload_n (q := 2) C dX12_goesOn_519 rfl rfl ?_
        refine g_iconst C dX12_goesOn_520 rfl ?_
        obtain ⟨g32, h⟩ := h
        obtain ⟨ht, hf⟩ := h
        refine g_icmp_ne (tgt := 529) C dX12_goesOn_521 (by decide) g32 (by decide) (fun c => ?_) (fun c => ?_)
        · have h := hf c
          refine g_bipush (v := 41) C dX12_goesOn_529 (by decide +kernel) ?_
          refine G.sub [0, 1, 2] rfl ?_
          exact w_X12_goesOn_J531 C hR  h
        · have h := ht c
          refine g_bipush (v := 93) C dX12_goesOn_524 (by decide +kernel) ?_
          refine g_goto (tgt := 531) C dX12_goesOn_526 (by decide) ?_
          refine G.sub [0, 1, 2] rfl ?_
          exact w_X12_goesOn_J531 C hR  h
      · have h := ht c
        refine G.sub [0, 1, 2] rfl ?_
        exact w_X12_goesOn_J452 C hR  h
  · have h := hf c
    refine g_aload_n (q := 0) C dX12_goesOn_427 rfl rfl ?_
    refine g_getI C fX12_36 (by decide) dX12_goesOn_428 kd_199 ?_
    obtain ⟨g33, h⟩ := h
    obtain ⟨ht, hf⟩ := h
    refine g_if_ne (tgt := 439) C dX12_goesOn_431 (by decide) g33 (fun c => ?_) (fun c => ?_)
    · have h := hf c
      refine G.sub [] rfl ?_
      exact w_X12_goesOn_J439 C hR  h
    · have h := ht c
      refine g_aload_n (q := 0) C dX12_goesOn_434 rfl rfl ?_
      refine g_iconst C dX12_goesOn_435 rfl ?_
      refine g_cVv (As := [vI 1]) C clX12_326 clvX12_joins dX12_goesOn_436 kd_199 rfl (Nat.le_of_ble_eq_true rfl) rfl (by decide) (t_X12_joins (Cx.ok C) h) (fun M34 h => ?_)
      refine G.sub [] rfl ?_
      exact w_X12_goesOn_J439 C hR  h
set_option maxRecDepth 20000 in
theorem w_X12_goesOn_J400 {Y : YT} {X : CX} (C : Cx Y X cX12_goesOn 5 RX12 3) {Q : Int → Mem → Prop} (hR : Rt Y X (some .boolean) (PQi Y Q)) {v1 : Int} {v2 : Int} {v3 : Int}  {M : Mem}  (h : m_X12_goesOn_J400  Q v1 v2 v3 M) : G Y X 5 400 [(0, vR Y 199), (1, vI v1), (2, vI v2), (3, vI v3)] ([]) M := by
  unfold m_X12_goesOn_J400 at h
  refine g_iload_n (q := 3) C dX12_goesOn_400 rfl rfl ?_
  obtain ⟨g35, h⟩ := h
  obtain ⟨ht, hf⟩ := h
  refine g_if_eq (tgt := 422) C dX12_goesOn_401 (by decide) g35 (fun c => ?_) (fun c => ?_)
  · have h := ht c
    refine G.sub [0, 1, 2] rfl ?_
    exact w_X12_goesOn_J422 C hR  h
  · have h := hf c
    refine g_aload_n (q := 0) C dX12_goesOn_404 rfl rfl ?_
    refine g_getS (v := 221) C fX12_125 dX12_goesOn_405 kd_199 rfl ?_
    refine g_iload_n (q := 1) C dX12_goesOn_408 rfl rfl ?_
    obtain ⟨g36, h⟩ := h
    refine g_iald C dX12_goesOn_409 kd_221 ln_221 g36 ?_
    obtain ⟨g37, h⟩ := h
    obtain ⟨ht, hf⟩ := h
    refine g_if_ne (tgt := 422) C dX12_goesOn_410 (by decide) g37 (fun c => ?_) (fun c => ?_)
    · have h := hf c
      refine G.sub [0, 1, 2] rfl ?_
      exact w_X12_goesOn_J422 C hR  h
    · have h := ht c
      refine g_aload_n (q := 0) C dX12_goesOn_413 rfl rfl ?_
      refine g_iconst C dX12_goesOn_414 rfl ?_
      refine g_aload_n (q := 0) C dX12_goesOn_415 rfl rfl ?_
      refine g_getI C fX12_23 (by decide) dX12_goesOn_416 kd_199 ?_
      refine g_cVv (As := [vI 1, vI (M 199 4)]) C clX12_224 clvX12_blame dX12_goesOn_419 kd_199 rfl (Nat.le_of_ble_eq_true rfl) rfl (by decide) (t_X12_blame (Cx.ok C) h) (fun M38 h => ?_)
      refine G.sub [0, 1, 2] rfl ?_
      exact w_X12_goesOn_J422 C hR  h
set_option maxRecDepth 20000 in
theorem w_X12_goesOn_J372 {Y : YT} {X : CX} (C : Cx Y X cX12_goesOn 5 RX12 3) {Q : Int → Mem → Prop} (hR : Rt Y X (some .boolean) (PQi Y Q)) {v1 : Int} {s1 : Int}  {M : Mem}  (h : m_X12_goesOn_J372  Q v1 s1 M) : G Y X 5 372 [(0, vR Y 199), (1, vI v1)] ((vI s1) :: (vR Y 199) :: []) M := by
  unfold m_X12_goesOn_J372 at h
  refine g_cVv (As := [vI s1]) C clX12_320 clvX12_holdsBack dX12_goesOn_372 kd_199 rfl (Nat.le_of_ble_eq_true rfl) rfl (by decide) (t_X12_holdsBack (Cx.ok C) h) (fun M39 h => ?_)
  refine g_aload_n (q := 0) C dX12_goesOn_375 rfl rfl ?_
  refine g_getS (v := 221) C fX12_125 dX12_goesOn_376 kd_199 rfl ?_
  refine g_iload_n (q := 1) C dX12_goesOn_379 rfl rfl ?_
  refine g_iconst C dX12_goesOn_380 rfl ?_
  obtain ⟨g40, h⟩ := h
  obtain ⟨M41, e_M41⟩ : ∃ z : Mem, z = up M39 221 v1 0 := ⟨_, rfl⟩
  have h := h M41 e_M41
  refine g_iast C dX12_goesOn_381 kd_221 ln_221 g40 e_M41 ?_
  refine g_aload_n (q := 0) C dX12_goesOn_382 rfl rfl ?_
  refine g_getS (v := 222) C fX12_128 dX12_goesOn_383 kd_199 rfl ?_
  refine g_iload_n (q := 1) C dX12_goesOn_386 rfl rfl ?_
  refine g_iconst C dX12_goesOn_387 rfl ?_
  obtain ⟨g42, h⟩ := h
  obtain ⟨M43, e_M43⟩ : ∃ z : Mem, z = up M41 222 v1 1 := ⟨_, rfl⟩
  have h := h M43 e_M43
  refine g_zast C dX12_goesOn_388 kd_222 ln_222 g42 (by decide) e_M43 ?_
  refine g_aload_n (q := 0) C dX12_goesOn_389 rfl rfl ?_
  refine g_cVv (As := []) C clX12_241 clvX12_ahead dX12_goesOn_390 kd_199 rfl (Nat.le_of_ble_eq_true rfl) rfl (by decide) (t_X12_ahead (Cx.ok C) h) (fun M44 h => ?_)
  refine g_aload_n (q := 0) C dX12_goesOn_393 rfl rfl ?_
  refine g_iconst C dX12_goesOn_394 rfl ?_
  obtain ⟨M45, e_M45⟩ : ∃ z : Mem, z = up M44 199 45 0 := ⟨_, rfl⟩
  have h := h M45 e_M45
  refine g_putZ C fX12_150 pX12_150 dX12_goesOn_395 kd_199 (by decide) e_M45 ?_
  refine g_iconst C dX12_goesOn_398 rfl ?_
  exact g_retz C hR dX12_goesOn_399 (by decide) h
set_option maxRecDepth 20000 in
theorem w_X12_goesOn_J356 {Y : YT} {X : CX} (C : Cx Y X cX12_goesOn 5 RX12 3) {Q : Int → Mem → Prop} (hR : Rt Y X (some .boolean) (PQi Y Q)) {v1 : Int} {v4 : Int} {s1 : Int}  {M : Mem}  (h : m_X12_goesOn_J356  Q v1 v4 s1 M) : G Y X 5 356 [(0, vR Y 199), (1, vI v1), (4, vI v4)] ((vI s1) :: (vR Y 199) :: []) M := by
  unfold m_X12_goesOn_J356 at h
  refine g_cVv (As := [vI s1]) C clX12_326 clvX12_joins dX12_goesOn_356 kd_199 rfl (Nat.le_of_ble_eq_true rfl) rfl (by decide) (t_X12_joins (Cx.ok C) h) (fun M46 h => ?_)
  refine g_aload_n (q := 0) C dX12_goesOn_359 rfl rfl ?_
  refine g_iload (q := 2) C dX12_goesOn_360 rfl ?_
  obtain ⟨g47, h⟩ := h
  obtain ⟨ht, hf⟩ := h
  refine g_if_eq (tgt := 370) C dX12_goesOn_362 (by decide) g47 (fun c => ?_) (fun c => ?_)
  · have h := ht c
    refine g_bipush (v := 42) C dX12_goesOn_370 (by decide +kernel) ?_
    refine G.sub [0, 1] rfl ?_
    exact w_X12_goesOn_J372 C hR  h
  · have h := hf c
    refine g_bipush (v := 41) C dX12_goesOn_365 (by decide +kernel) ?_
    refine g_goto (tgt := 372) C dX12_goesOn_367 (by decide) ?_
    refine G.sub [0, 1] rfl ?_
    exact w_X12_goesOn_J372 C hR  h
set_option maxRecDepth 20000 in
theorem w_X12_goesOn_J327 {Y : YT} {X : CX} (C : Cx Y X cX12_goesOn 5 RX12 3) {Q : Int → Mem → Prop} (hR : Rt Y X (some .boolean) (PQi Y Q)) {v1 : Int}  {M : Mem}  (h : m_X12_goesOn_J327  Q v1 M) : G Y X 5 327 [(0, vR Y 199), (1, vI v1)] ([]) M := by
  unfold m_X12_goesOn_J327 at h
  refine g_aload_n (q := 0) C dX12_goesOn_327 rfl rfl ?_
  refine g_getI C fX12_36 (by decide) dX12_goesOn_328 kd_199 ?_
  obtain ⟨g48, h⟩ := h
  obtain ⟨ht, hf⟩ := h
  refine g_if_le (tgt := 336) C dX12_goesOn_331 (by decide) g48 (fun c => ?_) (fun c => ?_)
  · have h := ht c
    refine g_aload_n (q := 0) C dX12_goesOn_336 rfl rfl ?_
    refine g_ldc2 (v := 6385252) C dX12_goesOn_337 kX12_282 (by decide +kernel) ?_
    refine g_cVi (As := [vL 6385252]) C clX12_316 clvX12_isWord dX12_goesOn_340 kd_199 rfl (Nat.le_of_ble_eq_true rfl) rfl (by decide) (t_X12_isWord (Cx.ok C) h) (fun r50 M49 h => ?_)
    refine g_istore (lv' := [(4, vI r50), (0, vR Y 199), (1, vI v1)]) C dX12_goesOn_343 (by decide) rfl ?_
    refine g_aload_n (q := 1) C dX12_goesOn_345 rfl rfl ?_
    refine g_iload (q := 0) C dX12_goesOn_346 rfl ?_
    obtain ⟨g51, h⟩ := h
    obtain ⟨ht, hf⟩ := h
    refine g_if_eq (tgt := 355) C dX12_goesOn_348 (by decide) g51 (fun c => ?_) (fun c => ?_)
    · have h := ht c
      refine g_iconst C dX12_goesOn_355 rfl ?_
      refine G.sub [1, 2, 0] rfl ?_
      exact w_X12_goesOn_J356 C hR  h
    · have h := hf c
      refine g_iconst C dX12_goesOn_351 rfl ?_
      refine g_goto (tgt := 356) C dX12_goesOn_352 (by decide) ?_
      refine G.sub [1, 2, 0] rfl ?_
      exact w_X12_goesOn_J356 C hR  h
  · have h := hf c
    refine g_iconst C dX12_goesOn_334 rfl ?_
    exact g_retz C hR dX12_goesOn_335 (by decide) h
set_option maxRecDepth 20000 in
theorem w_X12_goesOn_J309 {Y : YT} {X : CX} (C : Cx Y X cX12_goesOn 5 RX12 3) {Q : Int → Mem → Prop} (hR : Rt Y X (some .boolean) (PQi Y Q)) {v1 : Int}  {M : Mem}  (h : m_X12_goesOn_J309  Q v1 M) : G Y X 5 309 [(0, vR Y 199), (1, vI v1)] ([]) M := by
  unfold m_X12_goesOn_J309 at h
  refine g_aload_n (q := 0) C dX12_goesOn_309 rfl rfl ?_
  refine g_getS (v := 221) C fX12_125 dX12_goesOn_310 kd_199 rfl ?_
  refine g_iload_n (q := 1) C dX12_goesOn_313 rfl rfl ?_
  obtain ⟨g52, h⟩ := h
  refine g_iald C dX12_goesOn_314 kd_221 ln_221 g52 ?_
  obtain ⟨g53, h⟩ := h
  obtain ⟨ht, hf⟩ := h
  refine g_if_ne (tgt := 327) C dX12_goesOn_315 (by decide) g53 (fun c => ?_) (fun c => ?_)
  · have h := hf c
    refine G.sub [0, 1] rfl ?_
    exact w_X12_goesOn_J327 C hR  h
  · have h := ht c
    refine g_aload_n (q := 0) C dX12_goesOn_318 rfl rfl ?_
    refine g_iconst C dX12_goesOn_319 rfl ?_
    refine g_aload_n (q := 0) C dX12_goesOn_320 rfl rfl ?_
    refine g_getI C fX12_23 (by decide) dX12_goesOn_321 kd_199 ?_
    refine g_cVv (As := [vI 1, vI (M 199 4)]) C clX12_224 clvX12_blame dX12_goesOn_324 kd_199 rfl (Nat.le_of_ble_eq_true rfl) rfl (by decide) (t_X12_blame (Cx.ok C) h) (fun M54 h => ?_)
    refine G.sub [0, 1] rfl ?_
    exact w_X12_goesOn_J327 C hR  h
set_option maxRecDepth 20000 in
theorem w_X12_goesOn_J285 {Y : YT} {X : CX} (C : Cx Y X cX12_goesOn 5 RX12 3) {Q : Int → Mem → Prop} (hR : Rt Y X (some .boolean) (PQi Y Q)) {v1 : Int} {v2 : Int} {v3 : Int}  {M : Mem}  (h : m_X12_goesOn_J285  Q v1 v2 v3 M) : G Y X 5 285 [(0, vR Y 199), (1, vI v1), (2, vI v2), (3, vI v3)] ([]) M := by
  unfold m_X12_goesOn_J285 at h
  refine g_iload_n (q := 3) C dX12_goesOn_285 rfl rfl ?_
  obtain ⟨g55, h⟩ := h
  obtain ⟨ht, hf⟩ := h
  refine g_if_eq (tgt := 400) C dX12_goesOn_286 (by decide) g55 (fun c => ?_) (fun c => ?_)
  · have h := ht c
    refine G.sub [0, 1, 2, 3] rfl ?_
    exact w_X12_goesOn_J400 C hR  h
  · have h := hf c
    refine g_aload_n (q := 0) C dX12_goesOn_289 rfl rfl ?_
    refine g_ldc2 (v := 6385252) C dX12_goesOn_290 kX12_282 (by decide +kernel) ?_
    refine g_cVi (As := [vL 6385252]) C clX12_316 clvX12_isWord dX12_goesOn_293 kd_199 rfl (Nat.le_of_ble_eq_true rfl) rfl (by decide) (t_X12_isWord (Cx.ok C) h) (fun r57 M56 h => ?_)
    obtain ⟨g58, h⟩ := h
    obtain ⟨ht, hf⟩ := h
    refine g_if_ne (tgt := 309) C dX12_goesOn_296 (by decide) g58 (fun c => ?_) (fun c => ?_)
    · have h := hf c
      refine G.sub [0, 1] rfl ?_
      exact w_X12_goesOn_J309 C hR  h
    · have h := ht c
      refine g_aload_n (q := 0) C dX12_goesOn_299 rfl rfl ?_
      refine g_ldc2 (v := 28530) C dX12_goesOn_300 kX12_280 (by decide +kernel) ?_
      refine g_cVi (As := [vL 28530]) C clX12_316 clvX12_isWord dX12_goesOn_303 kd_199 rfl (Nat.le_of_ble_eq_true rfl) rfl (by decide) (t_X12_isWord (Cx.ok C) h) (fun r60 M59 h => ?_)
      obtain ⟨g61, h⟩ := h
      obtain ⟨ht, hf⟩ := h
      refine g_if_eq (tgt := 400) C dX12_goesOn_306 (by decide) g61 (fun c => ?_) (fun c => ?_)
      · have h := ht c
        refine G.sub [0, 1, 2, 3] rfl ?_
        exact w_X12_goesOn_J400 C hR  h
      · have h := hf c
        refine G.sub [0, 1] rfl ?_
        exact w_X12_goesOn_J309 C hR  h
set_option maxRecDepth 20000 in
theorem w_X12_goesOn_J264 {Y : YT} {X : CX} (C : Cx Y X cX12_goesOn 5 RX12 3) {Q : Int → Mem → Prop} (hR : Rt Y X (some .boolean) (PQi Y Q)) {v1 : Int} {s1 : Int}  {M : Mem}  (h : m_X12_goesOn_J264  Q v1 s1 M) : G Y X 5 264 [(0, vR Y 199), (1, vI v1)] ((vI s1) :: (vR Y 199) :: []) M := by
  unfold m_X12_goesOn_J264 at h
  refine g_cVv (As := [vI s1]) C clX12_320 clvX12_holdsBack dX12_goesOn_264 kd_199 rfl (Nat.le_of_ble_eq_true rfl) rfl (by decide) (t_X12_holdsBack (Cx.ok C) h) (fun M62 h => ?_)
  refine g_aload_n (q := 0) C dX12_goesOn_267 rfl rfl ?_
  refine g_getS (v := 221) C fX12_125 dX12_goesOn_268 kd_199 rfl ?_
  refine g_iload_n (q := 1) C dX12_goesOn_271 rfl rfl ?_
  refine g_iconst C dX12_goesOn_272 rfl ?_
  obtain ⟨g63, h⟩ := h
  obtain ⟨M64, e_M64⟩ : ∃ z : Mem, z = up M62 221 v1 1 := ⟨_, rfl⟩
  have h := h M64 e_M64
  refine g_iast C dX12_goesOn_273 kd_221 ln_221 g63 e_M64 ?_
  refine g_aload_n (q := 0) C dX12_goesOn_274 rfl rfl ?_
  refine g_cVv (As := []) C clX12_241 clvX12_ahead dX12_goesOn_275 kd_199 rfl (Nat.le_of_ble_eq_true rfl) rfl (by decide) (t_X12_ahead (Cx.ok C) h) (fun M65 h => ?_)
  refine g_aload_n (q := 0) C dX12_goesOn_278 rfl rfl ?_
  refine g_iconst C dX12_goesOn_279 rfl ?_
  obtain ⟨M66, e_M66⟩ : ∃ z : Mem, z = up M65 199 45 0 := ⟨_, rfl⟩
  have h := h M66 e_M66
  refine g_putZ C fX12_150 pX12_150 dX12_goesOn_280 kd_199 (by decide) e_M66 ?_
  refine g_iconst C dX12_goesOn_283 rfl ?_
  exact g_retz C hR dX12_goesOn_284 (by decide) h
set_option maxRecDepth 20000 in
theorem w_X12_goesOn_J228 {Y : YT} {X : CX} (C : Cx Y X cX12_goesOn 5 RX12 3) {Q : Int → Mem → Prop} (hR : Rt Y X (some .boolean) (PQi Y Q)) {v1 : Int}  {M : Mem}  (h : m_X12_goesOn_J228  Q v1 M) : G Y X 5 228 [(0, vR Y 199), (1, vI v1)] ([]) M := by
  unfold m_X12_goesOn_J228 at h
  refine g_aload_n (q := 0) C dX12_goesOn_228 rfl rfl ?_
  refine g_iconst C dX12_goesOn_229 rfl ?_
  refine g_cVv (As := [vI 5]) C clX12_326 clvX12_joins dX12_goesOn_230 kd_199 rfl (Nat.le_of_ble_eq_true rfl) rfl (by decide) (t_X12_joins (Cx.ok C) h) (fun M67 h => ?_)
  refine g_aload_n (q := 0) C dX12_goesOn_233 rfl rfl ?_
  refine g_aload_n (q := 0) C dX12_goesOn_234 rfl rfl ?_
  refine g_bipush (v := 60) C dX12_goesOn_235 (by decide +kernel) ?_
  refine g_cVi (As := [vI 60]) C clX12_238 clvX12_isSign dX12_goesOn_237 kd_199 rfl (Nat.le_of_ble_eq_true rfl) rfl (by decide) (t_X12_isSign (Cx.ok C) h) (fun r69 M68 h => ?_)
  obtain ⟨g70, h⟩ := h
  obtain ⟨ht, hf⟩ := h
  refine g_if_eq (tgt := 248) C dX12_goesOn_240 (by decide) g70 (fun c => ?_) (fun c => ?_)
  · have h := ht c
    refine g_aload_n (q := 0) C dX12_goesOn_248 rfl rfl ?_
    refine g_bipush (v := 62) C dX12_goesOn_249 (by decide +kernel) ?_
    refine g_cVi (As := [vI 62]) C clX12_238 clvX12_isSign dX12_goesOn_251 kd_199 rfl (Nat.le_of_ble_eq_true rfl) rfl (by decide) (t_X12_isSign (Cx.ok C) h) (fun r72 M71 h => ?_)
    obtain ⟨g73, h⟩ := h
    obtain ⟨ht, hf⟩ := h
    refine g_if_eq (tgt := 262) C dX12_goesOn_254 (by decide) g73 (fun c => ?_) (fun c => ?_)
    · have h := ht c
      refine g_bipush (v := 40) C dX12_goesOn_262 (by decide +kernel) ?_
      refine G.sub [0, 1] rfl ?_
      exact w_X12_goesOn_J264 C hR  h
    · have h := hf c
      refine g_bipush (v := 39) C dX12_goesOn_257 (by decide +kernel) ?_
      refine g_goto (tgt := 264) C dX12_goesOn_259 (by decide) ?_
      refine G.sub [0, 1] rfl ?_
      exact w_X12_goesOn_J264 C hR  h
  · have h := hf c
    refine g_bipush (v := 38) C dX12_goesOn_243 (by decide +kernel) ?_
    refine g_goto (tgt := 264) C dX12_goesOn_245 (by decide) ?_
    refine G.sub [0, 1] rfl ?_
    exact w_X12_goesOn_J264 C hR  h
set_option maxRecDepth 20000 in
theorem w_X12_goesOn_J188 {Y : YT} {X : CX} (C : Cx Y X cX12_goesOn 5 RX12 3) {Q : Int → Mem → Prop} (hR : Rt Y X (some .boolean) (PQi Y Q)) {v1 : Int} {v2 : Int} {v3 : Int}  {M : Mem}  (h : m_X12_goesOn_J188  Q v1 v2 v3 M) : G Y X 5 188 [(0, vR Y 199), (1, vI v1), (2, vI v2), (3, vI v3)] ([]) M := by
  unfold m_X12_goesOn_J188 at h
  refine g_iload_n (q := 3) C dX12_goesOn_188 rfl rfl ?_
  obtain ⟨g74, h⟩ := h
  obtain ⟨ht, hf⟩ := h
  refine g_if_eq (tgt := 285) C dX12_goesOn_189 (by decide) g74 (fun c => ?_) (fun c => ?_)
  · have h := ht c
    refine G.sub [0, 1, 2, 3] rfl ?_
    exact w_X12_goesOn_J285 C hR  h
  · have h := hf c
    refine g_aload_n (q := 0) C dX12_goesOn_192 rfl rfl ?_
    refine g_getS (v := 221) C fX12_125 dX12_goesOn_193 kd_199 rfl ?_
    refine g_iload_n (q := 1) C dX12_goesOn_196 rfl rfl ?_
    obtain ⟨g75, h⟩ := h
    refine g_iald C dX12_goesOn_197 kd_221 ln_221 g75 ?_
    obtain ⟨g76, h⟩ := h
    obtain ⟨ht, hf⟩ := h
    refine g_if_ne (tgt := 285) C dX12_goesOn_198 (by decide) g76 (fun c => ?_) (fun c => ?_)
    · have h := hf c
      refine G.sub [0, 1, 2, 3] rfl ?_
      exact w_X12_goesOn_J285 C hR  h
    · have h := ht c
      refine g_aload_n (q := 0) C dX12_goesOn_201 rfl rfl ?_
      refine g_bipush (v := 60) C dX12_goesOn_202 (by decide +kernel) ?_
      refine g_cVi (As := [vI 60]) C clX12_238 clvX12_isSign dX12_goesOn_204 kd_199 rfl (Nat.le_of_ble_eq_true rfl) rfl (by decide) (t_X12_isSign (Cx.ok C) h) (fun r78 M77 h => ?_)
      obtain ⟨g79, h⟩ := h
      obtain ⟨ht, hf⟩ := h
      refine g_if_ne (tgt := 228) C dX12_goesOn_207 (by decide) g79 (fun c => ?_) (fun c => ?_)
      · have h := hf c
        refine G.sub [0, 1] rfl ?_
        exact w_X12_goesOn_J228 C hR  h
      · have h := ht c
        refine g_aload_n (q := 0) C dX12_goesOn_210 rfl rfl ?_
        refine g_bipush (v := 62) C dX12_goesOn_211 (by decide +kernel) ?_
        refine g_cVi (As := [vI 62]) C clX12_238 clvX12_isSign dX12_goesOn_213 kd_199 rfl (Nat.le_of_ble_eq_true rfl) rfl (by decide) (t_X12_isSign (Cx.ok C) h) (fun r81 M80 h => ?_)
        obtain ⟨g82, h⟩ := h
        obtain ⟨ht, hf⟩ := h
        refine g_if_ne (tgt := 228) C dX12_goesOn_216 (by decide) g82 (fun c => ?_) (fun c => ?_)
        · have h := hf c
          refine G.sub [0, 1] rfl ?_
          exact w_X12_goesOn_J228 C hR  h
        · have h := ht c
          refine g_aload_n (q := 0) C dX12_goesOn_219 rfl rfl ?_
          refine g_bipush (v := 61) C dX12_goesOn_220 (by decide +kernel) ?_
          refine g_cVi (As := [vI 61]) C clX12_238 clvX12_isSign dX12_goesOn_222 kd_199 rfl (Nat.le_of_ble_eq_true rfl) rfl (by decide) (t_X12_isSign (Cx.ok C) h) (fun r84 M83 h => ?_)
          obtain ⟨g85, h⟩ := h
          obtain ⟨ht, hf⟩ := h
          refine g_if_eq (tgt := 285) C dX12_goesOn_225 (by decide) g85 (fun c => ?_) (fun c => ?_)
          · have h := ht c
            refine G.sub [0, 1, 2, 3] rfl ?_
            exact w_X12_goesOn_J285 C hR  h
          · have h := hf c
            refine G.sub [0, 1] rfl ?_
            exact w_X12_goesOn_J228 C hR  h
set_option maxRecDepth 20000 in
theorem w_X12_goesOn_J174 {Y : YT} {X : CX} (C : Cx Y X cX12_goesOn 5 RX12 3) {Q : Int → Mem → Prop} (hR : Rt Y X (some .boolean) (PQi Y Q)) {s1 : Int}  {M : Mem}  (h : m_X12_goesOn_J174  Q s1 M) : G Y X 5 174 [(0, vR Y 199)] ((vI s1) :: (vR Y 199) :: []) M := by
  unfold m_X12_goesOn_J174 at h
  refine g_cVv (As := [vI s1]) C clX12_320 clvX12_holdsBack dX12_goesOn_174 kd_199 rfl (Nat.le_of_ble_eq_true rfl) rfl (by decide) (t_X12_holdsBack (Cx.ok C) h) (fun M86 h => ?_)
  refine g_aload_n (q := 0) C dX12_goesOn_177 rfl rfl ?_
  refine g_cVv (As := []) C clX12_241 clvX12_ahead dX12_goesOn_178 kd_199 rfl (Nat.le_of_ble_eq_true rfl) rfl (by decide) (t_X12_ahead (Cx.ok C) h) (fun M87 h => ?_)
  refine g_aload_n (q := 0) C dX12_goesOn_181 rfl rfl ?_
  refine g_iconst C dX12_goesOn_182 rfl ?_
  obtain ⟨M88, e_M88⟩ : ∃ z : Mem, z = up M87 199 45 0 := ⟨_, rfl⟩
  have h := h M88 e_M88
  refine g_putZ C fX12_150 pX12_150 dX12_goesOn_183 kd_199 (by decide) e_M88 ?_
  refine g_iconst C dX12_goesOn_186 rfl ?_
  exact g_retz C hR dX12_goesOn_187 (by decide) h
set_option maxRecDepth 20000 in
theorem w_X12_goesOn_J112 {Y : YT} {X : CX} (C : Cx Y X cX12_goesOn 5 RX12 3) {Q : Int → Mem → Prop} (hR : Rt Y X (some .boolean) (PQi Y Q)) {s1 : Int}  {M : Mem}  (h : m_X12_goesOn_J112  Q s1 M) : G Y X 5 112 [(0, vR Y 199)] ((vI s1) :: (vR Y 199) :: []) M := by
  unfold m_X12_goesOn_J112 at h
  refine g_cVv (As := [vI s1]) C clX12_326 clvX12_joins dX12_goesOn_112 kd_199 rfl (Nat.le_of_ble_eq_true rfl) rfl (by decide) (t_X12_joins (Cx.ok C) h) (fun M89 h => ?_)
  refine g_aload_n (q := 0) C dX12_goesOn_115 rfl rfl ?_
  refine g_aload_n (q := 0) C dX12_goesOn_116 rfl rfl ?_
  refine g_bipush (v := 43) C dX12_goesOn_117 (by decide +kernel) ?_
  refine g_cVi (As := [vI 43]) C clX12_238 clvX12_isSign dX12_goesOn_119 kd_199 rfl (Nat.le_of_ble_eq_true rfl) rfl (by decide) (t_X12_isSign (Cx.ok C) h) (fun r91 M90 h => ?_)
  obtain ⟨g92, h⟩ := h
  obtain ⟨ht, hf⟩ := h
  refine g_if_eq (tgt := 130) C dX12_goesOn_122 (by decide) g92 (fun c => ?_) (fun c => ?_)
  · have h := ht c
    refine g_aload_n (q := 0) C dX12_goesOn_130 rfl rfl ?_
    refine g_bipush (v := 45) C dX12_goesOn_131 (by decide +kernel) ?_
    refine g_cVi (As := [vI 45]) C clX12_238 clvX12_isSign dX12_goesOn_133 kd_199 rfl (Nat.le_of_ble_eq_true rfl) rfl (by decide) (t_X12_isSign (Cx.ok C) h) (fun r94 M93 h => ?_)
    obtain ⟨g95, h⟩ := h
    obtain ⟨ht, hf⟩ := h
    refine g_if_eq (tgt := 144) C dX12_goesOn_136 (by decide) g95 (fun c => ?_) (fun c => ?_)
    · have h := ht c
      refine g_aload_n (q := 0) C dX12_goesOn_144 rfl rfl ?_
      refine g_bipush (v := 42) C dX12_goesOn_145 (by decide +kernel) ?_
      refine g_cVi (As := [vI 42]) C clX12_238 clvX12_isSign dX12_goesOn_147 kd_199 rfl (Nat.le_of_ble_eq_true rfl) rfl (by decide) (t_X12_isSign (Cx.ok C) h) (fun r97 M96 h => ?_)
      obtain ⟨g98, h⟩ := h
      obtain ⟨ht, hf⟩ := h
      refine g_if_eq (tgt := 158) C dX12_goesOn_150 (by decide) g98 (fun c => ?_) (fun c => ?_)
      · have h := ht c
        refine g_aload_n (q := 0) C dX12_goesOn_158 rfl rfl ?_
        refine g_bipush (v := 47) C dX12_goesOn_159 (by decide +kernel) ?_
        refine g_cVi (As := [vI 47]) C clX12_238 clvX12_isSign dX12_goesOn_161 kd_199 rfl (Nat.le_of_ble_eq_true rfl) rfl (by decide) (t_X12_isSign (Cx.ok C) h) (fun r100 M99 h => ?_)
        obtain ⟨g101, h⟩ := h
        obtain ⟨ht, hf⟩ := h
        refine g_if_eq (tgt := 172) C dX12_goesOn_164 (by decide) g101 (fun c => ?_) (fun c => ?_)
        · have h := ht c
          refine g_bipush (v := 35) C dX12_goesOn_172 (by decide +kernel) ?_
          refine G.sub [0] rfl ?_
          exact w_X12_goesOn_J174 C hR  h
        · have h := hf c
          refine g_bipush (v := 34) C dX12_goesOn_167 (by decide +kernel) ?_
          refine g_goto (tgt := 174) C dX12_goesOn_169 (by decide) ?_
          refine G.sub [0] rfl ?_
          exact w_X12_goesOn_J174 C hR  h
      · have h := hf c
        refine g_bipush (v := 33) C dX12_goesOn_153 (by decide +kernel) ?_
        refine g_goto (tgt := 174) C dX12_goesOn_155 (by decide) ?_
        refine G.sub [0] rfl ?_
        exact w_X12_goesOn_J174 C hR  h
    · have h := hf c
      refine g_bipush (v := 32) C dX12_goesOn_139 (by decide +kernel) ?_
      refine g_goto (tgt := 174) C dX12_goesOn_141 (by decide) ?_
      refine G.sub [0] rfl ?_
      exact w_X12_goesOn_J174 C hR  h
  · have h := hf c
    refine g_bipush (v := 31) C dX12_goesOn_125 (by decide +kernel) ?_
    refine g_goto (tgt := 174) C dX12_goesOn_127 (by decide) ?_
    refine G.sub [0] rfl ?_
    exact w_X12_goesOn_J174 C hR  h
set_option maxRecDepth 20000 in
theorem w_X12_goesOn_J106 {Y : YT} {X : CX} (C : Cx Y X cX12_goesOn 5 RX12 3) {Q : Int → Mem → Prop} (hR : Rt Y X (some .boolean) (PQi Y Q))   {M : Mem}  (h : m_X12_goesOn_J106  Q  M) : G Y X 5 106 [(0, vR Y 199)] ((vR Y 199) :: []) M := by
  unfold m_X12_goesOn_J106 at h
  refine g_iconst C dX12_goesOn_106 rfl ?_
  refine g_goto (tgt := 112) C dX12_goesOn_107 (by decide) ?_
  refine G.sub [0] rfl ?_
  exact w_X12_goesOn_J112 C hR  h
set_option maxRecDepth 20000 in
theorem w_X12_goesOn_J87 {Y : YT} {X : CX} (C : Cx Y X cX12_goesOn 5 RX12 3) {Q : Int → Mem → Prop} (hR : Rt Y X (some .boolean) (PQi Y Q))   {M : Mem}  (h : m_X12_goesOn_J87  Q  M) : G Y X 5 87 [(0, vR Y 199)] ([]) M := by
  unfold m_X12_goesOn_J87 at h
  refine g_aload_n (q := 0) C dX12_goesOn_87 rfl rfl ?_
  refine g_aload_n (q := 0) C dX12_goesOn_88 rfl rfl ?_
  refine g_bipush (v := 43) C dX12_goesOn_89 (by decide +kernel) ?_
  refine g_cVi (As := [vI 43]) C clX12_238 clvX12_isSign dX12_goesOn_91 kd_199 rfl (Nat.le_of_ble_eq_true rfl) rfl (by decide) (t_X12_isSign (Cx.ok C) h) (fun r103 M102 h => ?_)
  obtain ⟨g104, h⟩ := h
  obtain ⟨ht, hf⟩ := h
  refine g_if_ne (tgt := 106) C dX12_goesOn_94 (by decide) g104 (fun c => ?_) (fun c => ?_)
  · have h := hf c
    refine G.sub [0] rfl ?_
    exact w_X12_goesOn_J106 C hR  h
  · have h := ht c
    refine g_aload_n (q := 0) C dX12_goesOn_97 rfl rfl ?_
    refine g_bipush (v := 45) C dX12_goesOn_98 (by decide +kernel) ?_
    refine g_cVi (As := [vI 45]) C clX12_238 clvX12_isSign dX12_goesOn_100 kd_199 rfl (Nat.le_of_ble_eq_true rfl) rfl (by decide) (t_X12_isSign (Cx.ok C) h) (fun r106 M105 h => ?_)
    obtain ⟨g107, h⟩ := h
    obtain ⟨ht, hf⟩ := h
    refine g_if_eq (tgt := 110) C dX12_goesOn_103 (by decide) g107 (fun c => ?_) (fun c => ?_)
    · have h := ht c
      refine g_bipush (v := 6) C dX12_goesOn_110 (by decide +kernel) ?_
      refine G.sub [0] rfl ?_
      exact w_X12_goesOn_J112 C hR  h
    · have h := hf c
      refine G.sub [0] rfl ?_
      exact w_X12_goesOn_J106 C hR  h
set_option maxRecDepth 20000 in
theorem t_X12_goesOn {l : Launch} {Y : YT} (hY : YOK Y) {M : Mem} {Q : Int → Mem → Prop} (h : m_X12_goesOn  M Q) : Ctr l Y yX12_goesOn cX12_goesOn 5 (some .boolean) 3 [vR Y 199] M (PQi Y Q) := by
  unfold m_X12_goesOn at h
  refine ctr_ofF hY (by decide +kernel) (Nat.le_of_ble_eq_true rfl) [(0, vR Y 199)] rfl (fun X hX C hR => ?_)
  refine g_aload_n (q := 0) C dX12_goesOn_0 rfl rfl ?_
  refine g_cVv (As := []) C clX12_235 clvX12_lex dX12_goesOn_1 kd_199 rfl (Nat.le_of_ble_eq_true rfl) rfl (by decide) (t_X12_lex (Cx.ok C) h) (fun M108 h => ?_)
  refine g_aload_n (q := 0) C dX12_goesOn_4 rfl rfl ?_
  refine g_getI C fX12_36 (by decide) dX12_goesOn_5 kd_199 ?_
  obtain ⟨g109, h⟩ := h
  obtain ⟨ht, hf⟩ := h
  refine g_if_le (tgt := 13) C dX12_goesOn_8 (by decide) g109 (fun c => ?_) (fun c => ?_)
  · have h := ht c
    refine g_aload_n (q := 0) C dX12_goesOn_13 rfl rfl ?_
    refine g_getI C fX12_138 (by decide) dX12_goesOn_14 kd_199 ?_
    refine g_iconst C dX12_goesOn_17 rfl ?_
    refine g_isub C dX12_goesOn_18 ?_
    refine g_istore_n (lv' := [(1, vI ((M108 199 41) - 1)), (0, vR Y 199)]) C dX12_goesOn_19 rfl (by decide) rfl ?_
    refine g_aload_n (q := 1) C dX12_goesOn_20 rfl rfl ?_
    refine g_getS (v := 220) C fX12_122 dX12_goesOn_21 kd_199 rfl ?_
    refine g_iload_n (q := 0) C dX12_goesOn_24 rfl rfl ?_
    obtain ⟨g110, h⟩ := h
    refine g_iald C dX12_goesOn_25 kd_220 ln_220 g110 ?_
    refine g_istore_n (lv' := [(2, vI (M108 220 ((M108 199 41) - 1))), (1, vI ((M108 199 41) - 1)), (0, vR Y 199)]) C dX12_goesOn_26 rfl (by decide) rfl ?_
    refine g_iload_n (q := 0) C dX12_goesOn_27 rfl rfl ?_
    refine g_cSi (As := [vI (M108 220 ((M108 199 41) - 1))]) C clX12_313 clsX12_isTest dX12_goesOn_28 rfl (Nat.le_of_ble_eq_true rfl) rfl (by decide) (t_X12_isTest (Cx.ok C) h) (fun r112 M111 h => ?_)
    refine g_istore_n (lv' := [(3, vI r112), (2, vI (M108 220 ((M108 199 41) - 1))), (1, vI ((M108 199 41) - 1)), (0, vR Y 199)]) C dX12_goesOn_31 rfl (by decide) rfl ?_
    refine g_aload_n (q := 3) C dX12_goesOn_32 rfl rfl ?_
    refine g_getS (v := 221) C fX12_125 dX12_goesOn_33 kd_199 rfl ?_
    refine g_iload_n (q := 2) C dX12_goesOn_36 rfl rfl ?_
    obtain ⟨g113, h⟩ := h
    refine g_iald C dX12_goesOn_37 kd_221 ln_221 g113 ?_
    refine g_iconst C dX12_goesOn_38 rfl ?_
    obtain ⟨g114, h⟩ := h
    obtain ⟨ht, hf⟩ := h
    refine g_icmp_ge (tgt := 188) C dX12_goesOn_39 (by decide) g114 (by decide) (fun c => ?_) (fun c => ?_)
    · have h := ht c
      refine G.sub [3, 2, 1, 0] rfl ?_
      exact w_X12_goesOn_J188 C hR  h
    · have h := hf c
      refine g_aload_n (q := 3) C dX12_goesOn_42 rfl rfl ?_
      refine g_bipush (v := 43) C dX12_goesOn_43 (by decide +kernel) ?_
      refine g_cVi (As := [vI 43]) C clX12_238 clvX12_isSign dX12_goesOn_45 kd_199 rfl (Nat.le_of_ble_eq_true rfl) rfl (by decide) (t_X12_isSign (Cx.ok C) h) (fun r116 M115 h => ?_)
      obtain ⟨g117, h⟩ := h
      obtain ⟨ht, hf⟩ := h
      refine g_if_ne (tgt := 87) C dX12_goesOn_48 (by decide) g117 (fun c => ?_) (fun c => ?_)
      · have h := hf c
        refine G.sub [3] rfl ?_
        exact w_X12_goesOn_J87 C hR  h
      · have h := ht c
        refine g_aload_n (q := 3) C dX12_goesOn_51 rfl rfl ?_
        refine g_bipush (v := 45) C dX12_goesOn_52 (by decide +kernel) ?_
        refine g_cVi (As := [vI 45]) C clX12_238 clvX12_isSign dX12_goesOn_54 kd_199 rfl (Nat.le_of_ble_eq_true rfl) rfl (by decide) (t_X12_isSign (Cx.ok C) h) (fun r119 M118 h => ?_)
        obtain ⟨g120, h⟩ := h
        obtain ⟨ht, hf⟩ := h
        refine g_if_ne (tgt := 87) C dX12_goesOn_57 (by decide) g120 (fun c => ?_) (fun c => ?_)
        · have h := hf c
          refine G.sub [3] rfl ?_
          exact w_X12_goesOn_J87 C hR  h
        · have h := ht c
          refine g_aload_n (q := 3) C dX12_goesOn_60 rfl rfl ?_
          refine g_bipush (v := 42) C dX12_goesOn_61 (by decide +kernel) ?_
          refine g_cVi (As := [vI 42]) C clX12_238 clvX12_isSign dX12_goesOn_63 kd_199 rfl (Nat.le_of_ble_eq_true rfl) rfl (by decide) (t_X12_isSign (Cx.ok C) h) (fun r122 M121 h => ?_)
          obtain ⟨g123, h⟩ := h
          obtain ⟨ht, hf⟩ := h
          refine g_if_ne (tgt := 87) C dX12_goesOn_66 (by decide) g123 (fun c => ?_) (fun c => ?_)
          · have h := hf c
            refine G.sub [3] rfl ?_
            exact w_X12_goesOn_J87 C hR  h
          · have h := ht c
            refine g_aload_n (q := 3) C dX12_goesOn_69 rfl rfl ?_
            refine g_bipush (v := 47) C dX12_goesOn_70 (by decide +kernel) ?_
            refine g_cVi (As := [vI 47]) C clX12_238 clvX12_isSign dX12_goesOn_72 kd_199 rfl (Nat.le_of_ble_eq_true rfl) rfl (by decide) (t_X12_isSign (Cx.ok C) h) (fun r125 M124 h => ?_)
            obtain ⟨g126, h⟩ := h
            obtain ⟨ht, hf⟩ := h
            refine g_if_ne (tgt := 87) C dX12_goesOn_75 (by decide) g126 (fun c => ?_) (fun c => ?_)
            · have h := hf c
              refine G.sub [3] rfl ?_
              exact w_X12_goesOn_J87 C hR  h
            · have h := ht c
              refine g_aload_n (q := 3) C dX12_goesOn_78 rfl rfl ?_
              refine g_bipush (v := 37) C dX12_goesOn_79 (by decide +kernel) ?_
              refine g_cVi (As := [vI 37]) C clX12_238 clvX12_isSign dX12_goesOn_81 kd_199 rfl (Nat.le_of_ble_eq_true rfl) rfl (by decide) (t_X12_isSign (Cx.ok C) h) (fun r128 M127 h => ?_)
              obtain ⟨g129, h⟩ := h
              obtain ⟨ht, hf⟩ := h
              refine g_if_eq (tgt := 188) C dX12_goesOn_84 (by decide) g129 (fun c => ?_) (fun c => ?_)
              · have h := ht c
                refine G.sub [3, 2, 1, 0] rfl ?_
                exact w_X12_goesOn_J188 C hR  h
              · have h := hf c
                refine G.sub [3] rfl ?_
                exact w_X12_goesOn_J87 C hR  h
  · have h := hf c
    refine g_iconst C dX12_goesOn_11 rfl ?_
    exact g_retz C hR dX12_goesOn_12 (by decide) h
