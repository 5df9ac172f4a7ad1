theorem dX12_letter_0 : decode cX12_letter 0 = .ok (.iload_n 1, 1) := by decide +kernel
theorem dX12_letter_1 : decode cX12_letter 1 = .ok (.iconst 0, 1) := by decide +kernel
theorem dX12_letter_2 : decode cX12_letter 2 = .ok (.iconst 1, 1) := by decide +kernel
theorem dX12_letter_3 : decode cX12_letter 3 = .ok (.invokestatic 300, 3) := by decide +kernel
theorem dX12_letter_6 : decode cX12_letter 6 = .ok (.ifCond .eq 31, 3) := by decide +kernel
theorem dX12_letter_9 : decode cX12_letter 9 = .ok (.iload_n 2, 1) := by decide +kernel
theorem dX12_letter_10 : decode cX12_letter 10 = .ok (.iconst 0, 1) := by decide +kernel
theorem dX12_letter_11 : decode cX12_letter 11 = .ok (.aload_n 0, 1) := by decide +kernel
theorem dX12_letter_12 : decode cX12_letter 12 = .ok (.aload_n 0, 1) := by decide +kernel
theorem dX12_letter_13 : decode cX12_letter 13 = .ok (.getfield 51, 3) := by decide +kernel
theorem dX12_letter_16 : decode cX12_letter 16 = .ok (.iload_n 1, 1) := by decide +kernel
theorem dX12_letter_17 : decode cX12_letter 17 = .ok (.invokevirtual 292, 3) := by decide +kernel
theorem dX12_letter_20 : decode cX12_letter 20 = .ok (.iconst 1, 1) := by decide +kernel
theorem dX12_letter_21 : decode cX12_letter 21 = .ok (.isub, 1) := by decide +kernel
theorem dX12_letter_22 : decode cX12_letter 22 = .ok (.invokestatic 300, 3) := by decide +kernel
theorem dX12_letter_25 : decode cX12_letter 25 = .ok (.ifCond .eq 12, 3) := by decide +kernel
theorem dX12_letter_28 : decode cX12_letter 28 = .ok (.iload_n 3, 1) := by decide +kernel
theorem dX12_letter_29 : decode cX12_letter 29 = .ok (.iconst 0, 1) := by decide +kernel
theorem dX12_letter_30 : decode cX12_letter 30 = .ok (.iconst 5, 1) := by decide +kernel
theorem dX12_letter_31 : decode cX12_letter 31 = .ok (.invokestatic 300, 3) := by decide +kernel
theorem dX12_letter_34 : decode cX12_letter 34 = .ok (.ifCond .ne 5, 3) := by decide +kernel
theorem dX12_letter_37 : decode cX12_letter 37 = .ok (.iconst (-1), 1) := by decide +kernel
theorem dX12_letter_38 : decode cX12_letter 38 = .ok (.ireturn, 1) := by decide +kernel
theorem dX12_letter_39 : decode cX12_letter 39 = .ok (.aload_n 0, 1) := by decide +kernel
theorem dX12_letter_40 : decode cX12_letter 40 = .ok (.aload_n 0, 1) := by decide +kernel
theorem dX12_letter_41 : decode cX12_letter 41 = .ok (.getfield 51, 3) := by decide +kernel
theorem dX12_letter_44 : decode cX12_letter 44 = .ok (.iload_n 1, 1) := by decide +kernel
theorem dX12_letter_45 : decode cX12_letter 45 = .ok (.iload_n 2, 1) := by decide +kernel
theorem dX12_letter_46 : decode cX12_letter 46 = .ok (.invokevirtual 296, 3) := by decide +kernel
theorem dX12_letter_49 : decode cX12_letter 49 = .ok (.lstore 4, 2) := by decide +kernel
theorem dX12_letter_51 : decode cX12_letter 51 = .ok (.iconst 0, 1) := by decide +kernel
theorem dX12_letter_52 : decode cX12_letter 52 = .ok (.istore 6, 2) := by decide +kernel
theorem dX12_letter_54 : decode cX12_letter 54 = .ok (.lload 4, 2) := by decide +kernel
theorem dX12_letter_56 : decode cX12_letter 56 = .ok (.lstore 7, 2) := by decide +kernel
theorem dX12_letter_58 : decode cX12_letter 58 = .ok (.lload 7, 2) := by decide +kernel
theorem dX12_letter_60 : decode cX12_letter 60 = .ok (.lconst 0, 1) := by decide +kernel
theorem dX12_letter_61 : decode cX12_letter 61 = .ok (.lcmp, 1) := by decide +kernel
theorem dX12_letter_62 : decode cX12_letter 62 = .ok (.ifCond .le 16, 3) := by decide +kernel
theorem dX12_letter_65 : decode cX12_letter 65 = .ok (.iinc 6 1, 3) := by decide +kernel
theorem dX12_letter_68 : decode cX12_letter 68 = .ok (.lload 7, 2) := by decide +kernel
theorem dX12_letter_70 : decode cX12_letter 70 = .ok (.bipush 8, 2) := by decide +kernel
theorem dX12_letter_72 : decode cX12_letter 72 = .ok (.lshr, 1) := by decide +kernel
theorem dX12_letter_73 : decode cX12_letter 73 = .ok (.lstore 7, 2) := by decide +kernel
theorem dX12_letter_75 : decode cX12_letter 75 = .ok (.goto (-17), 3) := by decide +kernel
theorem dX12_letter_78 : decode cX12_letter 78 = .ok (.iload_n 3, 1) := by decide +kernel
theorem dX12_letter_79 : decode cX12_letter 79 = .ok (.iload 6, 2) := by decide +kernel
theorem dX12_letter_81 : decode cX12_letter 81 = .ok (.if_icmp .lt 7, 3) := by decide +kernel
theorem dX12_letter_84 : decode cX12_letter 84 = .ok (.iconst 0, 1) := by decide +kernel
theorem dX12_letter_85 : decode cX12_letter 85 = .ok (.goto 25, 3) := by decide +kernel
theorem dX12_letter_88 : decode cX12_letter 88 = .ok (.lload 4, 2) := by decide +kernel
theorem dX12_letter_90 : decode cX12_letter 90 = .ok (.bipush 8, 2) := by decide +kernel
theorem dX12_letter_92 : decode cX12_letter 92 = .ok (.iload 6, 2) := by decide +kernel
theorem dX12_letter_94 : decode cX12_letter 94 = .ok (.iconst 1, 1) := by decide +kernel
theorem dX12_letter_95 : decode cX12_letter 95 = .ok (.isub, 1) := by decide +kernel
theorem dX12_letter_96 : decode cX12_letter 96 = .ok (.iload_n 3, 1) := by decide +kernel
theorem dX12_letter_97 : decode cX12_letter 97 = .ok (.isub, 1) := by decide +kernel
theorem dX12_letter_98 : decode cX12_letter 98 = .ok (.imul, 1) := by decide +kernel
theorem dX12_letter_99 : decode cX12_letter 99 = .ok (.lshr, 1) := by decide +kernel
theorem dX12_letter_100 : decode cX12_letter 100 = .ok (.ldc2_w 468, 3) := by decide +kernel
theorem dX12_letter_103 : decode cX12_letter 103 = .ok (.land, 1) := by decide +kernel
theorem dX12_letter_104 : decode cX12_letter 104 = .ok (.l2i, 1) := by decide +kernel
theorem dX12_letter_105 : decode cX12_letter 105 = .ok (.bipush 97, 2) := by decide +kernel
theorem dX12_letter_107 : decode cX12_letter 107 = .ok (.isub, 1) := by decide +kernel
theorem dX12_letter_108 : decode cX12_letter 108 = .ok (.iconst 1, 1) := by decide +kernel
theorem dX12_letter_109 : decode cX12_letter 109 = .ok (.iadd, 1) := by decide +kernel
theorem dX12_letter_110 : decode cX12_letter 110 = .ok (.ireturn, 1) := by decide +kernel
theorem dX12_far_0 : decode cX12_far 0 = .ok (.aload_n 0, 1) := by decide +kernel
theorem dX12_far_1 : decode cX12_far 1 = .ok (.iload_n 1, 1) := by decide +kernel
theorem dX12_far_2 : decode cX12_far 2 = .ok (.invokevirtual 470, 3) := by decide +kernel
theorem dX12_far_5 : decode cX12_far 5 = .ok (.ifCond .eq 50, 3) := by decide +kernel
theorem dX12_far_8 : decode cX12_far 8 = .ok (.aload_n 0, 1) := by decide +kernel
theorem dX12_far_9 : decode cX12_far 9 = .ok (.iload_n 2, 1) := by decide +kernel
theorem dX12_far_10 : decode cX12_far 10 = .ok (.invokevirtual 470, 3) := by decide +kernel
theorem dX12_far_13 : decode cX12_far 13 = .ok (.ifCond .eq 42, 3) := by decide +kernel
theorem dX12_far_16 : decode cX12_far 16 = .ok (.aload_n 0, 1) := by decide +kernel
theorem dX12_far_17 : decode cX12_far 17 = .ok (.getfield 63, 3) := by decide +kernel
theorem dX12_far_20 : decode cX12_far 20 = .ok (.aload_n 0, 1) := by decide +kernel
theorem dX12_far_21 : decode cX12_far 21 = .ok (.aload_n 0, 1) := by decide +kernel
theorem dX12_far_22 : decode cX12_far 22 = .ok (.getfield 51, 3) := by decide +kernel
theorem dX12_far_25 : decode cX12_far 25 = .ok (.iload_n 1, 1) := by decide +kernel
theorem dX12_far_26 : decode cX12_far 26 = .ok (.iload_n 2, 1) := by decide +kernel
theorem dX12_far_27 : decode cX12_far 27 = .ok (.invokevirtual 361, 3) := by decide +kernel
theorem dX12_far_30 : decode cX12_far 30 = .ok (.iaload, 1) := by decide +kernel
theorem dX12_far_31 : decode cX12_far 31 = .ok (.ldc_w 395, 3) := by decide +kernel
theorem dX12_far_34 : decode cX12_far 34 = .ok (.if_icmp .ge 21, 3) := by decide +kernel
theorem dX12_far_37 : decode cX12_far 37 = .ok (.aload_n 0, 1) := by decide +kernel
theorem dX12_far_38 : decode cX12_far 38 = .ok (.getfield 63, 3) := by decide +kernel
theorem dX12_far_41 : decode cX12_far 41 = .ok (.aload_n 0, 1) := by decide +kernel
theorem dX12_far_42 : decode cX12_far 42 = .ok (.aload_n 0, 1) := by decide +kernel
theorem dX12_far_43 : decode cX12_far 43 = .ok (.getfield 51, 3) := by decide +kernel
theorem dX12_far_46 : decode cX12_far 46 = .ok (.iload_n 1, 1) := by decide +kernel
theorem dX12_far_47 : decode cX12_far 47 = .ok (.iload_n 2, 1) := by decide +kernel
theorem dX12_far_48 : decode cX12_far 48 = .ok (.invokevirtual 361, 3) := by decide +kernel
theorem dX12_far_51 : decode cX12_far 51 = .ok (.iaload, 1) := by decide +kernel
theorem dX12_far_52 : decode cX12_far 52 = .ok (.goto 4, 3) := by decide +kernel
theorem dX12_far_55 : decode cX12_far 55 = .ok (.iconst (-1), 1) := by decide +kernel
theorem dX12_far_56 : decode cX12_far 56 = .ok (.ireturn, 1) := by decide +kernel
theorem dX12_person_0 : decode cX12_person 0 = .ok (.aload_n 0, 1) := by decide +kernel
theorem dX12_person_1 : decode cX12_person 1 = .ok (.iload_n 1, 1) := by decide +kernel
theorem dX12_person_2 : decode cX12_person 2 = .ok (.invokevirtual 473, 3) := by decide +kernel
theorem dX12_person_5 : decode cX12_person 5 = .ok (.ifCond .ne 5, 3) := by decide +kernel
theorem dX12_person_8 : decode cX12_person 8 = .ok (.iconst (-1), 1) := by decide +kernel
theorem dX12_person_9 : decode cX12_person 9 = .ok (.ireturn, 1) := by decide +kernel
theorem dX12_person_10 : decode cX12_person 10 = .ok (.iload_n 2, 1) := by decide +kernel
theorem dX12_person_11 : decode cX12_person 11 = .ok (.ifCond .ne 12, 3) := by decide +kernel
theorem dX12_person_14 : decode cX12_person 14 = .ok (.aload_n 0, 1) := by decide +kernel
theorem dX12_person_15 : decode cX12_person 15 = .ok (.getfield 159, 3) := by decide +kernel
theorem dX12_person_18 : decode cX12_person 18 = .ok (.iload_n 1, 1) := by decide +kernel
theorem dX12_person_19 : decode cX12_person 19 = .ok (.iaload, 1) := by decide +kernel
theorem dX12_person_20 : decode cX12_person 20 = .ok (.goto 52, 3) := by decide +kernel
theorem dX12_person_23 : decode cX12_person 23 = .ok (.iload_n 2, 1) := by decide +kernel
theorem dX12_person_24 : decode cX12_person 24 = .ok (.iconst 1, 1) := by decide +kernel
theorem dX12_person_25 : decode cX12_person 25 = .ok (.if_icmp .ne 20, 3) := by decide +kernel
theorem dX12_person_28 : decode cX12_person 28 = .ok (.aload_n 0, 1) := by decide +kernel
theorem dX12_person_29 : decode cX12_person 29 = .ok (.getfield 72, 3) := by decide +kernel
theorem dX12_person_32 : decode cX12_person 32 = .ok (.bipush 6, 2) := by decide +kernel
theorem dX12_person_34 : decode cX12_person 34 = .ok (.aload_n 0, 1) := by decide +kernel
theorem dX12_person_35 : decode cX12_person 35 = .ok (.getfield 51, 3) := by decide +kernel
theorem dX12_person_38 : decode cX12_person 38 = .ok (.imul, 1) := by decide +kernel
theorem dX12_person_39 : decode cX12_person 39 = .ok (.iload_n 1, 1) := by decide +kernel
theorem dX12_person_40 : decode cX12_person 40 = .ok (.iadd, 1) := by decide +kernel
theorem dX12_person_41 : decode cX12_person 41 = .ok (.iaload, 1) := by decide +kernel
theorem dX12_person_42 : decode cX12_person 42 = .ok (.goto 30, 3) := by decide +kernel
theorem dX12_person_45 : decode cX12_person 45 = .ok (.iload_n 2, 1) := by decide +kernel
theorem dX12_person_46 : decode cX12_person 46 = .ok (.iconst 2, 1) := by decide +kernel
theorem dX12_person_47 : decode cX12_person 47 = .ok (.if_icmp .ne 24, 3) := by decide +kernel
theorem dX12_person_50 : decode cX12_person 50 = .ok (.aload_n 0, 1) := by decide +kernel
theorem dX12_person_51 : decode cX12_person 51 = .ok (.getfield 162, 3) := by decide +kernel
theorem dX12_person_54 : decode cX12_person 54 = .ok (.iconst 0, 1) := by decide +kernel
theorem dX12_person_55 : decode cX12_person 55 = .ok (.iaload, 1) := by decide +kernel
theorem dX12_person_56 : decode cX12_person 56 = .ok (.iload_n 1, 1) := by decide +kernel
theorem dX12_person_57 : decode cX12_person 57 = .ok (.invokestatic 342, 3) := by decide +kernel
theorem dX12_person_60 : decode cX12_person 60 = .ok (.ifCond .eq 7, 3) := by decide +kernel
theorem dX12_person_63 : decode cX12_person 63 = .ok (.iconst 1, 1) := by decide +kernel
theorem dX12_person_64 : decode cX12_person 64 = .ok (.goto 8, 3) := by decide +kernel
theorem dX12_person_67 : decode cX12_person 67 = .ok (.iconst 0, 1) := by decide +kernel
theorem dX12_person_68 : decode cX12_person 68 = .ok (.goto 4, 3) := by decide +kernel
theorem dX12_person_71 : decode cX12_person 71 = .ok (.iconst (-1), 1) := by decide +kernel
theorem dX12_person_72 : decode cX12_person 72 = .ok (.ireturn, 1) := by decide +kernel
theorem dX12_whoAt_0 : decode cX12_whoAt 0 = .ok (.iconst 0, 1) := by decide +kernel
theorem dX12_whoAt_1 : decode cX12_whoAt 1 = .ok (.istore_n 3, 1) := by decide +kernel
theorem dX12_whoAt_2 : decode cX12_whoAt 2 = .ok (.iconst 0, 1) := by decide +kernel
theorem dX12_whoAt_3 : decode cX12_whoAt 3 = .ok (.istore 4, 2) := by decide +kernel
theorem dX12_whoAt_5 : decode cX12_whoAt 5 = .ok (.iload 4, 2) := by decide +kernel
theorem dX12_whoAt_7 : decode cX12_whoAt 7 = .ok (.aload_n 0, 1) := by decide +kernel
theorem dX12_whoAt_8 : decode cX12_whoAt 8 = .ok (.getfield 66, 3) := by decide +kernel
theorem dX12_whoAt_11 : decode cX12_whoAt 11 = .ok (.aload_n 0, 1) := by decide +kernel
theorem dX12_whoAt_12 : decode cX12_whoAt 12 = .ok (.getfield 51, 3) := by decide +kernel
theorem dX12_whoAt_15 : decode cX12_whoAt 15 = .ok (.iaload, 1) := by decide +kernel
theorem dX12_whoAt_16 : decode cX12_whoAt 16 = .ok (.if_icmp .ge 36, 3) := by decide +kernel
theorem dX12_whoAt_19 : decode cX12_whoAt 19 = .ok (.iload_n 3, 1) := by decide +kernel
theorem dX12_whoAt_20 : decode cX12_whoAt 20 = .ok (.aload_n 0, 1) := by decide +kernel
theorem dX12_whoAt_21 : decode cX12_whoAt 21 = .ok (.getfield 192, 3) := by decide +kernel
theorem dX12_whoAt_24 : decode cX12_whoAt 24 = .ok (.bipush 6, 2) := by decide +kernel
theorem dX12_whoAt_26 : decode cX12_whoAt 26 = .ok (.iload_n 1, 1) := by decide +kernel
theorem dX12_whoAt_27 : decode cX12_whoAt 27 = .ok (.imul, 1) := by decide +kernel
theorem dX12_whoAt_28 : decode cX12_whoAt 28 = .ok (.iload 4, 2) := by decide +kernel
theorem dX12_whoAt_30 : decode cX12_whoAt 30 = .ok (.iadd, 1) := by decide +kernel
theorem dX12_whoAt_31 : decode cX12_whoAt 31 = .ok (.iaload, 1) := by decide +kernel
theorem dX12_whoAt_32 : decode cX12_whoAt 32 = .ok (.iload_n 2, 1) := by decide +kernel
theorem dX12_whoAt_33 : decode cX12_whoAt 33 = .ok (.if_icmp .ne 10, 3) := by decide +kernel
theorem dX12_whoAt_36 : decode cX12_whoAt 36 = .ok (.iconst 1, 1) := by decide +kernel
theorem dX12_whoAt_37 : decode cX12_whoAt 37 = .ok (.iload 4, 2) := by decide +kernel
theorem dX12_whoAt_39 : decode cX12_whoAt 39 = .ok (.ishl, 1) := by decide +kernel
theorem dX12_whoAt_40 : decode cX12_whoAt 40 = .ok (.goto 4, 3) := by decide +kernel
theorem dX12_whoAt_43 : decode cX12_whoAt 43 = .ok (.iconst 0, 1) := by decide +kernel
theorem dX12_whoAt_44 : decode cX12_whoAt 44 = .ok (.ior, 1) := by decide +kernel
theorem dX12_whoAt_45 : decode cX12_whoAt 45 = .ok (.istore_n 3, 1) := by decide +kernel
theorem dX12_whoAt_46 : decode cX12_whoAt 46 = .ok (.iinc 4 1, 3) := by decide +kernel
theorem dX12_whoAt_49 : decode cX12_whoAt 49 = .ok (.goto (-44), 3) := by decide +kernel
theorem dX12_whoAt_52 : decode cX12_whoAt 52 = .ok (.iload_n 3, 1) := by decide +kernel
theorem dX12_whoAt_53 : decode cX12_whoAt 53 = .ok (.ireturn, 1) := by decide +kernel
theorem dX12_frame_0 : decode cX12_frame 0 = .ok (.iload_n 1, 1) := by decide +kernel
theorem dX12_frame_1 : decode cX12_frame 1 = .ok (.iconst 0, 1) := by decide +kernel
theorem dX12_frame_2 : decode cX12_frame 2 = .ok (.aload_n 0, 1) := by decide +kernel
theorem dX12_frame_3 : decode cX12_frame 3 = .ok (.getfield 165, 3) := by decide +kernel
theorem dX12_frame_6 : decode cX12_frame 6 = .ok (.iconst 0, 1) := by decide +kernel
theorem dX12_frame_7 : decode cX12_frame 7 = .ok (.iaload, 1) := by decide +kernel
theorem dX12_frame_8 : decode cX12_frame 8 = .ok (.iconst 1, 1) := by decide +kernel
theorem dX12_frame_9 : decode cX12_frame 9 = .ok (.isub, 1) := by decide +kernel
theorem dX12_frame_10 : decode cX12_frame 10 = .ok (.invokestatic 300, 3) := by decide +kernel
theorem dX12_frame_13 : decode cX12_frame 13 = .ok (.ifCond .eq 12, 3) := by decide +kernel
theorem dX12_frame_16 : decode cX12_frame 16 = .ok (.iload_n 2, 1) := by decide +kernel
theorem dX12_frame_17 : decode cX12_frame 17 = .ok (.iconst 0, 1) := by decide +kernel
theorem dX12_frame_18 : decode cX12_frame 18 = .ok (.iconst 4, 1) := by decide +kernel
theorem dX12_frame_19 : decode cX12_frame 19 = .ok (.invokestatic 300, 3) := by decide +kernel
theorem dX12_frame_22 : decode cX12_frame 22 = .ok (.ifCond .ne 5, 3) := by decide +kernel
theorem dX12_frame_25 : decode cX12_frame 25 = .ok (.iconst (-1), 1) := by decide +kernel
theorem dX12_frame_26 : decode cX12_frame 26 = .ok (.ireturn, 1) := by decide +kernel
theorem dX12_frame_27 : decode cX12_frame 27 = .ok (.iload_n 2, 1) := by decide +kernel
theorem dX12_frame_28 : decode cX12_frame 28 = .ok (.iconst 3, 1) := by decide +kernel
theorem dX12_frame_29 : decode cX12_frame 29 = .ok (.if_icmp .ge 14, 3) := by decide +kernel
theorem dX12_frame_32 : decode cX12_frame 32 = .ok (.aload_n 0, 1) := by decide +kernel
theorem dX12_frame_33 : decode cX12_frame 33 = .ok (.getfield 168, 3) := by decide +kernel
theorem dX12_frame_36 : decode cX12_frame 36 = .ok (.iconst 3, 1) := by decide +kernel
theorem dX12_frame_37 : decode cX12_frame 37 = .ok (.iload_n 1, 1) := by decide +kernel
theorem dX12_frame_38 : decode cX12_frame 38 = .ok (.imul, 1) := by decide +kernel
theorem dX12_frame_39 : decode cX12_frame 39 = .ok (.iload_n 2, 1) := by decide +kernel
theorem dX12_frame_40 : decode cX12_frame 40 = .ok (.iadd, 1) := by decide +kernel
theorem dX12_frame_41 : decode cX12_frame 41 = .ok (.iaload, 1) := by decide +kernel
theorem dX12_frame_42 : decode cX12_frame 42 = .ok (.ireturn, 1) := by decide +kernel
theorem dX12_frame_43 : decode cX12_frame 43 = .ok (.aload_n 0, 1) := by decide +kernel
theorem dX12_frame_44 : decode cX12_frame 44 = .ok (.iconst 0, 1) := by decide +kernel
theorem dX12_frame_45 : decode cX12_frame 45 = .ok (.invokevirtual 453, 3) := by decide +kernel
theorem dX12_frame_48 : decode cX12_frame 48 = .ok (.iload_n 2, 1) := by decide +kernel
theorem dX12_frame_49 : decode cX12_frame 49 = .ok (.iconst 3, 1) := by decide +kernel
theorem dX12_frame_50 : decode cX12_frame 50 = .ok (.if_icmp .ne 20, 3) := by decide +kernel
theorem dX12_frame_53 : decode cX12_frame 53 = .ok (.aload_n 0, 1) := by decide +kernel
theorem dX12_frame_54 : decode cX12_frame 54 = .ok (.iconst 0, 1) := by decide +kernel
theorem dX12_frame_55 : decode cX12_frame 55 = .ok (.iload_n 1, 1) := by decide +kernel
theorem dX12_frame_56 : decode cX12_frame 56 = .ok (.invokevirtual 450, 3) := by decide +kernel
theorem dX12_frame_59 : decode cX12_frame 59 = .ok (.ifCond .eq 7, 3) := by decide +kernel
theorem dX12_frame_62 : decode cX12_frame 62 = .ok (.iconst 1, 1) := by decide +kernel
theorem dX12_frame_63 : decode cX12_frame 63 = .ok (.goto 29, 3) := by decide +kernel
theorem dX12_frame_66 : decode cX12_frame 66 = .ok (.iconst 0, 1) := by decide +kernel
theorem dX12_frame_67 : decode cX12_frame 67 = .ok (.goto 25, 3) := by decide +kernel
theorem dX12_frame_70 : decode cX12_frame 70 = .ok (.aload_n 0, 1) := by decide +kernel
theorem dX12_frame_71 : decode cX12_frame 71 = .ok (.aload_n 0, 1) := by decide +kernel
theorem dX12_frame_72 : decode cX12_frame 72 = .ok (.getfield 168, 3) := by decide +kernel
theorem dX12_frame_75 : decode cX12_frame 75 = .ok (.iconst 3, 1) := by decide +kernel
theorem dX12_frame_76 : decode cX12_frame 76 = .ok (.iload_n 1, 1) := by decide +kernel
theorem dX12_frame_77 : decode cX12_frame 77 = .ok (.imul, 1) := by decide +kernel
theorem dX12_frame_78 : decode cX12_frame 78 = .ok (.iaload, 1) := by decide +kernel
theorem dX12_frame_79 : decode cX12_frame 79 = .ok (.aload_n 0, 1) := by decide +kernel
theorem dX12_frame_80 : decode cX12_frame 80 = .ok (.getfield 168, 3) := by decide +kernel
theorem dX12_frame_83 : decode cX12_frame 83 = .ok (.iconst 3, 1) := by decide +kernel
theorem dX12_frame_84 : decode cX12_frame 84 = .ok (.iload_n 1, 1) := by decide +kernel
theorem dX12_frame_85 : decode cX12_frame 85 = .ok (.imul, 1) := by decide +kernel
theorem dX12_frame_86 : decode cX12_frame 86 = .ok (.iconst 1, 1) := by decide +kernel
theorem dX12_frame_87 : decode cX12_frame 87 = .ok (.iadd, 1) := by decide +kernel
theorem dX12_frame_88 : decode cX12_frame 88 = .ok (.iaload, 1) := by decide +kernel
theorem dX12_frame_89 : decode cX12_frame 89 = .ok (.invokevirtual 476, 3) := by decide +kernel
theorem dX12_frame_92 : decode cX12_frame 92 = .ok (.ireturn, 1) := by decide +kernel
theorem dX12_where_0 : decode cX12_where 0 = .ok (.aload_n 0, 1) := by decide +kernel
theorem dX12_where_1 : decode cX12_where 1 = .ok (.iload_n 1, 1) := by decide +kernel
theorem dX12_where_2 : decode cX12_where 2 = .ok (.invokevirtual 473, 3) := by decide +kernel
theorem dX12_where_5 : decode cX12_where 5 = .ok (.ifCond .eq 13, 3) := by decide +kernel
theorem dX12_where_8 : decode cX12_where 8 = .ok (.iload_n 2, 1) := by decide +kernel
theorem dX12_where_9 : decode cX12_where 9 = .ok (.iconst 0, 1) := by decide +kernel
theorem dX12_where_10 : decode cX12_where 10 = .ok (.bipush 8, 2) := by decide +kernel
theorem dX12_where_12 : decode cX12_where 12 = .ok (.invokestatic 300, 3) := by decide +kernel
theorem dX12_where_15 : decode cX12_where 15 = .ok (.ifCond .ne 5, 3) := by decide +kernel
theorem dX12_where_18 : decode cX12_where 18 = .ok (.iconst (-1), 1) := by decide +kernel
theorem dX12_where_19 : decode cX12_where 19 = .ok (.ireturn, 1) := by decide +kernel
theorem dX12_where_20 : decode cX12_where 20 = .ok (.aload_n 0, 1) := by decide +kernel
theorem dX12_where_21 : decode cX12_where 21 = .ok (.iconst 0, 1) := by decide +kernel
theorem dX12_where_22 : decode cX12_where 22 = .ok (.invokevirtual 453, 3) := by decide +kernel
theorem dX12_where_25 : decode cX12_where 25 = .ok (.aload_n 0, 1) := by decide +kernel
theorem dX12_where_26 : decode cX12_where 26 = .ok (.getfield 192, 3) := by decide +kernel
theorem dX12_where_29 : decode cX12_where 29 = .ok (.bipush 6, 2) := by decide +kernel
theorem dX12_where_31 : decode cX12_where 31 = .ok (.iload_n 2, 1) := by decide +kernel
theorem dX12_where_32 : decode cX12_where 32 = .ok (.imul, 1) := by decide +kernel
theorem dX12_where_33 : decode cX12_where 33 = .ok (.iload_n 1, 1) := by decide +kernel
theorem dX12_where_34 : decode cX12_where 34 = .ok (.iadd, 1) := by decide +kernel
theorem dX12_where_35 : decode cX12_where 35 = .ok (.iaload, 1) := by decide +kernel
theorem dX12_where_36 : decode cX12_where 36 = .ok (.ireturn, 1) := by decide +kernel
theorem dX12_who_0 : decode cX12_who 0 = .ok (.aload_n 0, 1) := by decide +kernel
theorem dX12_who_1 : decode cX12_who 1 = .ok (.iload_n 1, 1) := by decide +kernel
theorem dX12_who_2 : decode cX12_who 2 = .ok (.invokevirtual 470, 3) := by decide +kernel
theorem dX12_who_5 : decode cX12_who 5 = .ok (.ifCond .eq 13, 3) := by decide +kernel
theorem dX12_who_8 : decode cX12_who 8 = .ok (.iload_n 2, 1) := by decide +kernel
theorem dX12_who_9 : decode cX12_who 9 = .ok (.iconst 0, 1) := by decide +kernel
theorem dX12_who_10 : decode cX12_who 10 = .ok (.bipush 8, 2) := by decide +kernel
theorem dX12_who_12 : decode cX12_who 12 = .ok (.invokestatic 300, 3) := by decide +kernel
theorem dX12_who_15 : decode cX12_who 15 = .ok (.ifCond .ne 5, 3) := by decide +kernel
theorem dX12_who_18 : decode cX12_who 18 = .ok (.iconst (-1), 1) := by decide +kernel
theorem dX12_who_19 : decode cX12_who 19 = .ok (.ireturn, 1) := by decide +kernel
theorem dX12_who_20 : decode cX12_who 20 = .ok (.aload_n 0, 1) := by decide +kernel
theorem dX12_who_21 : decode cX12_who 21 = .ok (.iconst 0, 1) := by decide +kernel
theorem dX12_who_22 : decode cX12_who 22 = .ok (.invokevirtual 453, 3) := by decide +kernel
theorem dX12_who_25 : decode cX12_who 25 = .ok (.aload_n 0, 1) := by decide +kernel
theorem dX12_who_26 : decode cX12_who 26 = .ok (.iload_n 2, 1) := by decide +kernel
theorem dX12_who_27 : decode cX12_who 27 = .ok (.iload_n 1, 1) := by decide +kernel
theorem dX12_who_28 : decode cX12_who 28 = .ok (.invokevirtual 476, 3) := by decide +kernel
theorem dX12_who_31 : decode cX12_who 31 = .ok (.ireturn, 1) := by decide +kernel
theorem dX12_agrees_0 : decode cX12_agrees 0 = .ok (.aload_n 0, 1) := by decide +kernel
theorem dX12_agrees_1 : decode cX12_agrees 1 = .ok (.iconst 0, 1) := by decide +kernel
theorem dX12_agrees_2 : decode cX12_agrees 2 = .ok (.invokevirtual 459, 3) := by decide +kernel
theorem dX12_agrees_5 : decode cX12_agrees 5 = .ok (.ifCond .eq 7, 3) := by decide +kernel
theorem dX12_agrees_8 : decode cX12_agrees 8 = .ok (.iconst 1, 1) := by decide +kernel
theorem dX12_agrees_9 : decode cX12_agrees 9 = .ok (.goto 4, 3) := by decide +kernel
theorem dX12_agrees_12 : decode cX12_agrees 12 = .ok (.iconst 0, 1) := by decide +kernel
theorem dX12_agrees_13 : decode cX12_agrees 13 = .ok (.ireturn, 1) := by decide +kernel
theorem dX12_self_0 : decode cX12_self 0 = .ok (.aload_n 0, 1) := by decide +kernel
theorem dX12_self_1 : decode cX12_self 1 = .ok (.iload_n 2, 1) := by decide +kernel
theorem dX12_self_2 : decode cX12_self 2 = .ok (.invokevirtual 470, 3) := by decide +kernel
theorem dX12_self_5 : decode cX12_self 5 = .ok (.ifCond .eq 13, 3) := by decide +kernel
theorem dX12_self_8 : decode cX12_self 8 = .ok (.iload_n 1, 1) := by decide +kernel
theorem dX12_self_9 : decode cX12_self 9 = .ok (.iconst 1, 1) := by decide +kernel
theorem dX12_self_10 : decode cX12_self 10 = .ok (.bipush 8, 2) := by decide +kernel
theorem dX12_self_12 : decode cX12_self 12 = .ok (.invokestatic 300, 3) := by decide +kernel
theorem dX12_self_15 : decode cX12_self 15 = .ok (.ifCond .ne 5, 3) := by decide +kernel
theorem dX12_self_18 : decode cX12_self 18 = .ok (.iconst (-1), 1) := by decide +kernel
theorem dX12_self_19 : decode cX12_self 19 = .ok (.ireturn, 1) := by decide +kernel
theorem dX12_self_20 : decode cX12_self 20 = .ok (.iconst 0, 1) := by decide +kernel
theorem dX12_self_21 : decode cX12_self 21 = .ok (.istore_n 3, 1) := by decide +kernel
theorem dX12_self_22 : decode cX12_self 22 = .ok (.iconst 0, 1) := by decide +kernel
theorem dX12_self_23 : decode cX12_self 23 = .ok (.istore 4, 2) := by decide +kernel
theorem dX12_self_25 : decode cX12_self 25 = .ok (.iload 4, 2) := by decide +kernel
theorem dX12_self_27 : decode cX12_self 27 = .ok (.bipush 6, 2) := by decide +kernel
theorem dX12_self_29 : decode cX12_self 29 = .ok (.if_icmp .gt 85, 3) := by decide +kernel
theorem dX12_self_32 : decode cX12_self 32 = .ok (.aload_n 0, 1) := by decide +kernel
theorem dX12_self_33 : decode cX12_self 33 = .ok (.iconst 1, 1) := by decide +kernel
theorem dX12_self_34 : decode cX12_self 34 = .ok (.iconst 0, 1) := by decide +kernel
theorem dX12_self_35 : decode cX12_self 35 = .ok (.invokevirtual 411, 3) := by decide +kernel
theorem dX12_self_38 : decode cX12_self 38 = .ok (.aload_n 0, 1) := by decide +kernel
theorem dX12_self_39 : decode cX12_self 39 = .ok (.iconst 1, 1) := by decide +kernel
theorem dX12_self_40 : decode cX12_self 40 = .ok (.iload_n 1, 1) := by decide +kernel
theorem dX12_self_41 : decode cX12_self 41 = .ok (.iload_n 2, 1) := by decide +kernel
theorem dX12_self_42 : decode cX12_self 42 = .ok (.invokevirtual 479, 3) := by decide +kernel
theorem dX12_self_45 : decode cX12_self 45 = .ok (.istore 5, 2) := by decide +kernel
theorem dX12_self_47 : decode cX12_self 47 = .ok (.iload 5, 2) := by decide +kernel
theorem dX12_self_49 : decode cX12_self 49 = .ok (.iconst (-1), 1) := by decide +kernel
theorem dX12_self_50 : decode cX12_self 50 = .ok (.if_icmp .ne 15, 3) := by decide +kernel
theorem dX12_self_53 : decode cX12_self 53 = .ok (.aload_n 0, 1) := by decide +kernel
theorem dX12_self_54 : decode cX12_self 54 = .ok (.iconst 1, 1) := by decide +kernel
theorem dX12_self_55 : decode cX12_self 55 = .ok (.iload_n 1, 1) := by decide +kernel
theorem dX12_self_56 : decode cX12_self 56 = .ok (.iload_n 2, 1) := by decide +kernel
theorem dX12_self_57 : decode cX12_self 57 = .ok (.iload 4, 2) := by decide +kernel
theorem dX12_self_59 : decode cX12_self 59 = .ok (.invokevirtual 482, 3) := by decide +kernel
theorem dX12_self_62 : decode cX12_self 62 = .ok (.goto 19, 3) := by decide +kernel
theorem dX12_self_65 : decode cX12_self 65 = .ok (.aload_n 0, 1) := by decide +kernel
theorem dX12_self_66 : decode cX12_self 66 = .ok (.getfield 168, 3) := by decide +kernel
theorem dX12_self_69 : decode cX12_self 69 = .ok (.iconst 3, 1) := by decide +kernel
theorem dX12_self_70 : decode cX12_self 70 = .ok (.bipush 9, 2) := by decide +kernel
theorem dX12_self_72 : decode cX12_self 72 = .ok (.iload 5, 2) := by decide +kernel
theorem dX12_self_74 : decode cX12_self 74 = .ok (.iadd, 1) := by decide +kernel
theorem dX12_self_75 : decode cX12_self 75 = .ok (.imul, 1) := by decide +kernel
theorem dX12_self_76 : decode cX12_self 76 = .ok (.iconst 2, 1) := by decide +kernel
theorem dX12_self_77 : decode cX12_self 77 = .ok (.iadd, 1) := by decide +kernel
theorem dX12_self_78 : decode cX12_self 78 = .ok (.iload 4, 2) := by decide +kernel
theorem dX12_self_80 : decode cX12_self 80 = .ok (.iastore, 1) := by decide +kernel
theorem dX12_self_81 : decode cX12_self 81 = .ok (.aload_n 0, 1) := by decide +kernel
theorem dX12_self_82 : decode cX12_self 82 = .ok (.iconst 1, 1) := by decide +kernel
theorem dX12_self_83 : decode cX12_self 83 = .ok (.invokevirtual 453, 3) := by decide +kernel
theorem dX12_self_86 : decode cX12_self 86 = .ok (.iload_n 3, 1) := by decide +kernel
theorem dX12_self_87 : decode cX12_self 87 = .ok (.aload_n 0, 1) := by decide +kernel
theorem dX12_self_88 : decode cX12_self 88 = .ok (.iload_n 1, 1) := by decide +kernel
theorem dX12_self_89 : decode cX12_self 89 = .ok (.iload_n 2, 1) := by decide +kernel
theorem dX12_self_90 : decode cX12_self 90 = .ok (.invokevirtual 430, 3) := by decide +kernel
theorem dX12_self_93 : decode cX12_self 93 = .ok (.iload 4, 2) := by decide +kernel
theorem dX12_self_95 : decode cX12_self 95 = .ok (.if_icmp .ne 10, 3) := by decide +kernel
theorem dX12_self_98 : decode cX12_self 98 = .ok (.iconst 1, 1) := by decide +kernel
theorem dX12_self_99 : decode cX12_self 99 = .ok (.iload 4, 2) := by decide +kernel
theorem dX12_self_101 : decode cX12_self 101 = .ok (.ishl, 1) := by decide +kernel
theorem dX12_self_102 : decode cX12_self 102 = .ok (.goto 4, 3) := by decide +kernel
theorem dX12_self_105 : decode cX12_self 105 = .ok (.iconst 0, 1) := by decide +kernel
theorem dX12_self_106 : decode cX12_self 106 = .ok (.ior, 1) := by decide +kernel
theorem dX12_self_107 : decode cX12_self 107 = .ok (.istore_n 3, 1) := by decide +kernel
theorem dX12_self_108 : decode cX12_self 108 = .ok (.iinc 4 1, 3) := by decide +kernel
theorem dX12_self_111 : decode cX12_self 111 = .ok (.goto (-86), 3) := by decide +kernel
theorem dX12_self_114 : decode cX12_self 114 = .ok (.iload_n 3, 1) := by decide +kernel
theorem dX12_self_115 : decode cX12_self 115 = .ok (.ireturn, 1) := by decide +kernel
theorem dX12_cuts_0 : decode cX12_cuts 0 = .ok (.iconst (-1), 1) := by decide +kernel
theorem dX12_cuts_1 : decode cX12_cuts 1 = .ok (.istore_n 1, 1) := by decide +kernel
theorem dX12_cuts_2 : decode cX12_cuts 2 = .ok (.iconst 0, 1) := by decide +kernel
theorem dX12_cuts_3 : decode cX12_cuts 3 = .ok (.istore_n 2, 1) := by decide +kernel
theorem dX12_cuts_4 : decode cX12_cuts 4 = .ok (.iload_n 2, 1) := by decide +kernel
theorem dX12_cuts_5 : decode cX12_cuts 5 = .ok (.iconst 1, 1) := by decide +kernel
theorem dX12_cuts_6 : decode cX12_cuts 6 = .ok (.aload_n 0, 1) := by decide +kernel
theorem dX12_cuts_7 : decode cX12_cuts 7 = .ok (.getfield 165, 3) := by decide +kernel
theorem dX12_cuts_10 : decode cX12_cuts 10 = .ok (.iconst 0, 1) := by decide +kernel
theorem dX12_cuts_11 : decode cX12_cuts 11 = .ok (.iaload, 1) := by decide +kernel
theorem dX12_cuts_12 : decode cX12_cuts 12 = .ok (.ishl, 1) := by decide +kernel
theorem dX12_cuts_13 : decode cX12_cuts 13 = .ok (.if_icmp .ge 71, 3) := by decide +kernel
theorem dX12_cuts_16 : decode cX12_cuts 16 = .ok (.iload_n 1, 1) := by decide +kernel
theorem dX12_cuts_17 : decode cX12_cuts 17 = .ok (.iconst (-1), 1) := by decide +kernel
theorem dX12_cuts_18 : decode cX12_cuts 18 = .ok (.if_icmp .eq 17, 3) := by decide +kernel
theorem dX12_cuts_21 : decode cX12_cuts 21 = .ok (.iload_n 2, 1) := by decide +kernel
theorem dX12_cuts_22 : decode cX12_cuts 22 = .ok (.invokestatic 465, 3) := by decide +kernel
theorem dX12_cuts_25 : decode cX12_cuts 25 = .ok (.iload_n 1, 1) := by decide +kernel
theorem dX12_cuts_26 : decode cX12_cuts 26 = .ok (.invokestatic 465, 3) := by decide +kernel
theorem dX12_cuts_29 : decode cX12_cuts 29 = .ok (.if_icmp .lt 6, 3) := by decide +kernel
theorem dX12_cuts_32 : decode cX12_cuts 32 = .ok (.goto 46, 3) := by decide +kernel
theorem dX12_cuts_35 : decode cX12_cuts 35 = .ok (.aload_n 0, 1) := by decide +kernel
theorem dX12_cuts_36 : decode cX12_cuts 36 = .ok (.iconst 1, 1) := by decide +kernel
theorem dX12_cuts_37 : decode cX12_cuts 37 = .ok (.iconst 0, 1) := by decide +kernel
theorem dX12_cuts_38 : decode cX12_cuts 38 = .ok (.invokevirtual 411, 3) := by decide +kernel
theorem dX12_cuts_41 : decode cX12_cuts 41 = .ok (.bipush 7, 2) := by decide +kernel
theorem dX12_cuts_43 : decode cX12_cuts 43 = .ok (.istore_n 3, 1) := by decide +kernel
theorem dX12_cuts_44 : decode cX12_cuts 44 = .ok (.iload_n 3, 1) := by decide +kernel
theorem dX12_cuts_45 : decode cX12_cuts 45 = .ok (.ifCond .lt 23, 3) := by decide +kernel
theorem dX12_cuts_48 : decode cX12_cuts 48 = .ok (.iload_n 2, 1) := by decide +kernel
theorem dX12_cuts_49 : decode cX12_cuts 49 = .ok (.iload_n 3, 1) := by decide +kernel
theorem dX12_cuts_50 : decode cX12_cuts 50 = .ok (.invokestatic 342, 3) := by decide +kernel
theorem dX12_cuts_53 : decode cX12_cuts 53 = .ok (.ifCond .eq 9, 3) := by decide +kernel
theorem dX12_cuts_56 : decode cX12_cuts 56 = .ok (.aload_n 0, 1) := by decide +kernel
theorem dX12_cuts_57 : decode cX12_cuts 57 = .ok (.iconst 1, 1) := by decide +kernel
theorem dX12_cuts_58 : decode cX12_cuts 58 = .ok (.iload_n 3, 1) := by decide +kernel
theorem dX12_cuts_59 : decode cX12_cuts 59 = .ok (.invokevirtual 485, 3) := by decide +kernel
theorem dX12_cuts_62 : decode cX12_cuts 62 = .ok (.iinc 3 (-1), 3) := by decide +kernel
theorem dX12_cuts_65 : decode cX12_cuts 65 = .ok (.goto (-21), 3) := by decide +kernel
theorem dX12_cuts_68 : decode cX12_cuts 68 = .ok (.aload_n 0, 1) := by decide +kernel
theorem dX12_cuts_69 : decode cX12_cuts 69 = .ok (.iconst 1, 1) := by decide +kernel
theorem dX12_cuts_70 : decode cX12_cuts 70 = .ok (.invokevirtual 459, 3) := by decide +kernel
theorem dX12_cuts_73 : decode cX12_cuts 73 = .ok (.ifCond .eq 5, 3) := by decide +kernel
theorem dX12_cuts_76 : decode cX12_cuts 76 = .ok (.iload_n 2, 1) := by decide +kernel
theorem dX12_cuts_77 : decode cX12_cuts 77 = .ok (.istore_n 1, 1) := by decide +kernel
theorem dX12_cuts_78 : decode cX12_cuts 78 = .ok (.iinc 2 1, 3) := by decide +kernel
theorem dX12_cuts_81 : decode cX12_cuts 81 = .ok (.goto (-77), 3) := by decide +kernel
theorem dX12_cuts_84 : decode cX12_cuts 84 = .ok (.iload_n 1, 1) := by decide +kernel
theorem dX12_cuts_85 : decode cX12_cuts 85 = .ok (.ireturn, 1) := by decide +kernel
theorem dX12_crowd_0 : decode cX12_crowd 0 = .ok (.iconst (-1), 1) := by decide +kernel
theorem dX12_crowd_1 : decode cX12_crowd 1 = .ok (.istore_n 1, 1) := by decide +kernel
theorem dX12_crowd_2 : decode cX12_crowd 2 = .ok (.iconst 0, 1) := by decide +kernel
theorem dX12_crowd_3 : decode cX12_crowd 3 = .ok (.istore_n 2, 1) := by decide +kernel
theorem dX12_crowd_4 : decode cX12_crowd 4 = .ok (.iload_n 2, 1) := by decide +kernel
theorem dX12_crowd_5 : decode cX12_crowd 5 = .ok (.iconst 1, 1) := by decide +kernel
theorem dX12_crowd_6 : decode cX12_crowd 6 = .ok (.aload_n 0, 1) := by decide +kernel
theorem dX12_crowd_7 : decode cX12_crowd 7 = .ok (.getfield 66, 3) := by decide +kernel
theorem dX12_crowd_10 : decode cX12_crowd 10 = .ok (.aload_n 0, 1) := by decide +kernel
theorem dX12_crowd_11 : decode cX12_crowd 11 = .ok (.getfield 51, 3) := by decide +kernel
theorem dX12_crowd_14 : decode cX12_crowd 14 = .ok (.iaload, 1) := by decide +kernel
theorem dX12_crowd_15 : decode cX12_crowd 15 = .ok (.ishl, 1) := by decide +kernel
theorem dX12_crowd_16 : decode cX12_crowd 16 = .ok (.if_icmp .ge 51, 3) := by decide +kernel
theorem dX12_crowd_19 : decode cX12_crowd 19 = .ok (.iload_n 1, 1) := by decide +kernel
theorem dX12_crowd_20 : decode cX12_crowd 20 = .ok (.iconst (-1), 1) := by decide +kernel
theorem dX12_crowd_21 : decode cX12_crowd 21 = .ok (.if_icmp .eq 17, 3) := by decide +kernel
theorem dX12_crowd_24 : decode cX12_crowd 24 = .ok (.iload_n 2, 1) := by decide +kernel
theorem dX12_crowd_25 : decode cX12_crowd 25 = .ok (.invokestatic 465, 3) := by decide +kernel
theorem dX12_crowd_28 : decode cX12_crowd 28 = .ok (.iload_n 1, 1) := by decide +kernel
theorem dX12_crowd_29 : decode cX12_crowd 29 = .ok (.invokestatic 465, 3) := by decide +kernel
theorem dX12_crowd_32 : decode cX12_crowd 32 = .ok (.if_icmp .lt 6, 3) := by decide +kernel
theorem dX12_crowd_35 : decode cX12_crowd 35 = .ok (.goto 26, 3) := by decide +kernel
theorem dX12_crowd_38 : decode cX12_crowd 38 = .ok (.aload_n 0, 1) := by decide +kernel
theorem dX12_crowd_39 : decode cX12_crowd 39 = .ok (.iconst 1, 1) := by decide +kernel
theorem dX12_crowd_40 : decode cX12_crowd 40 = .ok (.iconst 0, 1) := by decide +kernel
theorem dX12_crowd_41 : decode cX12_crowd 41 = .ok (.invokevirtual 411, 3) := by decide +kernel
theorem dX12_crowd_44 : decode cX12_crowd 44 = .ok (.aload_n 0, 1) := by decide +kernel
theorem dX12_crowd_45 : decode cX12_crowd 45 = .ok (.getfield 162, 3) := by decide +kernel
theorem dX12_crowd_48 : decode cX12_crowd 48 = .ok (.iconst 1, 1) := by decide +kernel
theorem dX12_crowd_49 : decode cX12_crowd 49 = .ok (.iload_n 2, 1) := by decide +kernel
theorem dX12_crowd_50 : decode cX12_crowd 50 = .ok (.iastore, 1) := by decide +kernel
theorem dX12_crowd_51 : decode cX12_crowd 51 = .ok (.aload_n 0, 1) := by decide +kernel
theorem dX12_crowd_52 : decode cX12_crowd 52 = .ok (.iconst 1, 1) := by decide +kernel
theorem dX12_crowd_53 : decode cX12_crowd 53 = .ok (.invokevirtual 459, 3) := by decide +kernel
theorem dX12_crowd_56 : decode cX12_crowd 56 = .ok (.ifCond .eq 5, 3) := by decide +kernel
theorem dX12_crowd_59 : decode cX12_crowd 59 = .ok (.iload_n 2, 1) := by decide +kernel
theorem dX12_crowd_60 : decode cX12_crowd 60 = .ok (.istore_n 1, 1) := by decide +kernel
theorem dX12_crowd_61 : decode cX12_crowd 61 = .ok (.iinc 2 1, 3) := by decide +kernel
theorem dX12_crowd_64 : decode cX12_crowd 64 = .ok (.goto (-60), 3) := by decide +kernel
theorem dX12_crowd_67 : decode cX12_crowd 67 = .ok (.iload_n 1, 1) := by decide +kernel
theorem dX12_crowd_68 : decode cX12_crowd 68 = .ok (.ireturn, 1) := by decide +kernel
theorem dX12_empty_0 : decode cX12_empty 0 = .ok (.aload_n 0, 1) := by decide +kernel
theorem dX12_empty_1 : decode cX12_empty 1 = .ok (.iconst 0, 1) := by decide +kernel
theorem dX12_empty_2 : decode cX12_empty 2 = .ok (.invokevirtual 453, 3) := by decide +kernel
theorem dX12_empty_5 : decode cX12_empty 5 = .ok (.iconst 0, 1) := by decide +kernel
theorem dX12_empty_6 : decode cX12_empty 6 = .ok (.istore_n 1, 1) := by decide +kernel
theorem dX12_empty_7 : decode cX12_empty 7 = .ok (.iconst 0, 1) := by decide +kernel
theorem dX12_empty_8 : decode cX12_empty 8 = .ok (.istore_n 2, 1) := by decide +kernel
theorem dX12_empty_9 : decode cX12_empty 9 = .ok (.iload_n 2, 1) := by decide +kernel
theorem dX12_empty_10 : decode cX12_empty 10 = .ok (.aload_n 0, 1) := by decide +kernel
theorem dX12_empty_11 : decode cX12_empty 11 = .ok (.getfield 54, 3) := by decide +kernel
theorem dX12_empty_14 : decode cX12_empty 14 = .ok (.aload_n 0, 1) := by decide +kernel
theorem dX12_empty_15 : decode cX12_empty 15 = .ok (.getfield 51, 3) := by decide +kernel
theorem dX12_empty_18 : decode cX12_empty 18 = .ok (.iaload, 1) := by decide +kernel
theorem dX12_empty_19 : decode cX12_empty 19 = .ok (.if_icmp .ge 51, 3) := by decide +kernel
theorem dX12_empty_22 : decode cX12_empty 22 = .ok (.iconst 0, 1) := by decide +kernel
theorem dX12_empty_23 : decode cX12_empty 23 = .ok (.istore_n 3, 1) := by decide +kernel
theorem dX12_empty_24 : decode cX12_empty 24 = .ok (.iconst 1, 1) := by decide +kernel
theorem dX12_empty_25 : decode cX12_empty 25 = .ok (.istore 4, 2) := by decide +kernel
theorem dX12_empty_27 : decode cX12_empty 27 = .ok (.iload 4, 2) := by decide +kernel
theorem dX12_empty_29 : decode cX12_empty 29 = .ok (.bipush 8, 2) := by decide +kernel
theorem dX12_empty_31 : decode cX12_empty 31 = .ok (.if_icmp .gt 19, 3) := by decide +kernel
theorem dX12_empty_34 : decode cX12_empty 34 = .ok (.iload_n 3, 1) := by decide +kernel
theorem dX12_empty_35 : decode cX12_empty 35 = .ok (.aload_n 0, 1) := by decide +kernel
theorem dX12_empty_36 : decode cX12_empty 36 = .ok (.iload 4, 2) := by decide +kernel
theorem dX12_empty_38 : decode cX12_empty 38 = .ok (.iload_n 2, 1) := by decide +kernel
theorem dX12_empty_39 : decode cX12_empty 39 = .ok (.invokevirtual 430, 3) := by decide +kernel
theorem dX12_empty_42 : decode cX12_empty 42 = .ok (.iadd, 1) := by decide +kernel
theorem dX12_empty_43 : decode cX12_empty 43 = .ok (.istore_n 3, 1) := by decide +kernel
theorem dX12_empty_44 : decode cX12_empty 44 = .ok (.iinc 4 1, 3) := by decide +kernel
theorem dX12_empty_47 : decode cX12_empty 47 = .ok (.goto (-20), 3) := by decide +kernel
theorem dX12_empty_50 : decode cX12_empty 50 = .ok (.iload_n 1, 1) := by decide +kernel
theorem dX12_empty_51 : decode cX12_empty 51 = .ok (.iload_n 3, 1) := by decide +kernel
theorem dX12_empty_52 : decode cX12_empty 52 = .ok (.ifCond .ne 9, 3) := by decide +kernel
theorem dX12_empty_55 : decode cX12_empty 55 = .ok (.iconst 1, 1) := by decide +kernel
theorem dX12_empty_56 : decode cX12_empty 56 = .ok (.iload_n 2, 1) := by decide +kernel
theorem dX12_empty_57 : decode cX12_empty 57 = .ok (.ishl, 1) := by decide +kernel
theorem dX12_empty_58 : decode cX12_empty 58 = .ok (.goto 4, 3) := by decide +kernel
theorem dX12_empty_61 : decode cX12_empty 61 = .ok (.iconst 0, 1) := by decide +kernel
theorem dX12_empty_62 : decode cX12_empty 62 = .ok (.ior, 1) := by decide +kernel
theorem dX12_empty_63 : decode cX12_empty 63 = .ok (.istore_n 1, 1) := by decide +kernel
theorem dX12_empty_64 : decode cX12_empty 64 = .ok (.iinc 2 1, 3) := by decide +kernel
theorem dX12_empty_67 : decode cX12_empty 67 = .ok (.goto (-58), 3) := by decide +kernel
theorem dX12_empty_70 : decode cX12_empty 70 = .ok (.iload_n 1, 1) := by decide +kernel
theorem dX12_empty_71 : decode cX12_empty 71 = .ok (.ireturn, 1) := by decide +kernel
theorem dX12_isAhead_0 : decode cX12_isAhead 0 = .ok (.iload_n 1, 1) := by decide +kernel
theorem dX12_isAhead_1 : decode cX12_isAhead 1 = .ok (.iload_n 2, 1) := by decide +kernel
theorem dX12_isAhead_2 : decode cX12_isAhead 2 = .ok (.iload_n 3, 1) := by decide +kernel
theorem dX12_isAhead_3 : decode cX12_isAhead 3 = .ok (.invokestatic 300, 3) := by decide +kernel
theorem dX12_isAhead_6 : decode cX12_isAhead 6 = .ok (.ifCond .eq 21, 3) := by decide +kernel
theorem dX12_isAhead_9 : decode cX12_isAhead 9 = .ok (.aload_n 0, 1) := by decide +kernel
theorem dX12_isAhead_10 : decode cX12_isAhead 10 = .ok (.getfield 156, 3) := by decide +kernel
theorem dX12_isAhead_13 : decode cX12_isAhead 13 = .ok (.iconst 0, 1) := by decide +kernel
theorem dX12_isAhead_14 : decode cX12_isAhead 14 = .ok (.iaload, 1) := by decide +kernel
theorem dX12_isAhead_15 : decode cX12_isAhead 15 = .ok (.sipush 999, 3) := by decide +kernel
theorem dX12_isAhead_18 : decode cX12_isAhead 18 = .ok (.iload_n 1, 1) := by decide +kernel
theorem dX12_isAhead_19 : decode cX12_isAhead 19 = .ok (.isub, 1) := by decide +kernel
theorem dX12_isAhead_20 : decode cX12_isAhead 20 = .ok (.if_icmp .gt 7, 3) := by decide +kernel
theorem dX12_isAhead_23 : decode cX12_isAhead 23 = .ok (.iconst 1, 1) := by decide +kernel
theorem dX12_isAhead_24 : decode cX12_isAhead 24 = .ok (.goto 4, 3) := by decide +kernel
theorem dX12_isAhead_27 : decode cX12_isAhead 27 = .ok (.iconst 0, 1) := by decide +kernel
theorem dX12_isAhead_28 : decode cX12_isAhead 28 = .ok (.ireturn, 1) := by decide +kernel
theorem dX12_later_0 : decode cX12_later 0 = .ok (.aload_n 0, 1) := by decide +kernel
theorem dX12_later_1 : decode cX12_later 1 = .ok (.iload_n 1, 1) := by decide +kernel
theorem dX12_later_2 : decode cX12_later 2 = .ok (.invokevirtual 473, 3) := by decide +kernel
theorem dX12_later_5 : decode cX12_later 5 = .ok (.ifCond .eq 14, 3) := by decide +kernel
theorem dX12_later_8 : decode cX12_later 8 = .ok (.aload_n 0, 1) := by decide +kernel
theorem dX12_later_9 : decode cX12_later 9 = .ok (.iload_n 2, 1) := by decide +kernel
theorem dX12_later_10 : decode cX12_later 10 = .ok (.iconst 0, 1) := by decide +kernel
theorem dX12_later_11 : decode cX12_later 11 = .ok (.bipush 40, 2) := by decide +kernel
theorem dX12_later_13 : decode cX12_later 13 = .ok (.invokevirtual 488, 3) := by decide +kernel
theorem dX12_later_16 : decode cX12_later 16 = .ok (.ifCond .ne 5, 3) := by decide +kernel
theorem dX12_later_19 : decode cX12_later 19 = .ok (.iconst (-1), 1) := by decide +kernel
theorem dX12_later_20 : decode cX12_later 20 = .ok (.ireturn, 1) := by decide +kernel
theorem dX12_later_21 : decode cX12_later 21 = .ok (.aload_n 0, 1) := by decide +kernel
theorem dX12_later_22 : decode cX12_later 22 = .ok (.iconst 1, 1) := by decide +kernel
theorem dX12_later_23 : decode cX12_later 23 = .ok (.iconst 0, 1) := by decide +kernel
theorem dX12_later_24 : decode cX12_later 24 = .ok (.invokevirtual 411, 3) := by decide +kernel
theorem dX12_later_27 : decode cX12_later 27 = .ok (.iconst 0, 1) := by decide +kernel
theorem dX12_later_28 : decode cX12_later 28 = .ok (.istore_n 3, 1) := by decide +kernel
theorem dX12_later_29 : decode cX12_later 29 = .ok (.iload_n 3, 1) := by decide +kernel
theorem dX12_later_30 : decode cX12_later 30 = .ok (.iload_n 2, 1) := by decide +kernel
theorem dX12_later_31 : decode cX12_later 31 = .ok (.if_icmp .ge 15, 3) := by decide +kernel
theorem dX12_later_34 : decode cX12_later 34 = .ok (.aload_n 0, 1) := by decide +kernel
theorem dX12_later_35 : decode cX12_later 35 = .ok (.iconst 1, 1) := by decide +kernel
theorem dX12_later_36 : decode cX12_later 36 = .ok (.invokevirtual 491, 3) := by decide +kernel
theorem dX12_later_39 : decode cX12_later 39 = .ok (.pop, 1) := by decide +kernel
theorem dX12_later_40 : decode cX12_later 40 = .ok (.iinc 3 1, 3) := by decide +kernel
theorem dX12_later_43 : decode cX12_later 43 = .ok (.goto (-14), 3) := by decide +kernel
theorem dX12_later_46 : decode cX12_later 46 = .ok (.aload_n 0, 1) := by decide +kernel
theorem dX12_later_47 : decode cX12_later 47 = .ok (.getfield 159, 3) := by decide +kernel
theorem dX12_later_50 : decode cX12_later 50 = .ok (.bipush 6, 2) := by decide +kernel
theorem dX12_later_52 : decode cX12_later 52 = .ok (.iload_n 1, 1) := by decide +kernel
theorem dX12_later_53 : decode cX12_later 53 = .ok (.iadd, 1) := by decide +kernel
theorem dX12_later_54 : decode cX12_later 54 = .ok (.iaload, 1) := by decide +kernel
theorem dX12_later_55 : decode cX12_later 55 = .ok (.ireturn, 1) := by decide +kernel
theorem dX12_areTogether_0 : decode cX12_areTogether 0 = .ok (.iconst 1, 1) := by decide +kernel
theorem dX12_areTogether_1 : decode cX12_areTogether 1 = .ok (.istore_n 3, 1) := by decide +kernel
theorem dX12_areTogether_2 : decode cX12_areTogether 2 = .ok (.iload_n 3, 1) := by decide +kernel
theorem dX12_areTogether_3 : decode cX12_areTogether 3 = .ok (.bipush 8, 2) := by decide +kernel
theorem dX12_areTogether_5 : decode cX12_areTogether 5 = .ok (.if_icmp .gt 36, 3) := by decide +kernel
theorem dX12_areTogether_8 : decode cX12_areTogether 8 = .ok (.aload_n 0, 1) := by decide +kernel
theorem dX12_areTogether_9 : decode cX12_areTogether 9 = .ok (.getfield 192, 3) := by decide +kernel
theorem dX12_areTogether_12 : decode cX12_areTogether 12 = .ok (.bipush 6, 2) := by decide +kernel
theorem dX12_areTogether_14 : decode cX12_areTogether 14 = .ok (.iload_n 3, 1) := by decide +kernel
theorem dX12_areTogether_15 : decode cX12_areTogether 15 = .ok (.imul, 1) := by decide +kernel
theorem dX12_areTogether_16 : decode cX12_areTogether 16 = .ok (.iload_n 1, 1) := by decide +kernel
theorem dX12_areTogether_17 : decode cX12_areTogether 17 = .ok (.iadd, 1) := by decide +kernel
theorem dX12_areTogether_18 : decode cX12_areTogether 18 = .ok (.iaload, 1) := by decide +kernel
theorem dX12_areTogether_19 : decode cX12_areTogether 19 = .ok (.aload_n 0, 1) := by decide +kernel
theorem dX12_areTogether_20 : decode cX12_areTogether 20 = .ok (.getfield 192, 3) := by decide +kernel
theorem dX12_areTogether_23 : decode cX12_areTogether 23 = .ok (.bipush 6, 2) := by decide +kernel
theorem dX12_areTogether_25 : decode cX12_areTogether 25 = .ok (.iload_n 3, 1) := by decide +kernel
theorem dX12_areTogether_26 : decode cX12_areTogether 26 = .ok (.imul, 1) := by decide +kernel
theorem dX12_areTogether_27 : decode cX12_areTogether 27 = .ok (.iload_n 2, 1) := by decide +kernel
theorem dX12_areTogether_28 : decode cX12_areTogether 28 = .ok (.iadd, 1) := by decide +kernel
theorem dX12_areTogether_29 : decode cX12_areTogether 29 = .ok (.iaload, 1) := by decide +kernel
theorem dX12_areTogether_30 : decode cX12_areTogether 30 = .ok (.if_icmp .ne 5, 3) := by decide +kernel
theorem dX12_areTogether_33 : decode cX12_areTogether 33 = .ok (.iconst 1, 1) := by decide +kernel
theorem dX12_areTogether_34 : decode cX12_areTogether 34 = .ok (.ireturn, 1) := by decide +kernel
theorem dX12_areTogether_35 : decode cX12_areTogether 35 = .ok (.iinc 3 1, 3) := by decide +kernel
theorem dX12_areTogether_38 : decode cX12_areTogether 38 = .ok (.goto (-36), 3) := by decide +kernel
theorem dX12_areTogether_41 : decode cX12_areTogether 41 = .ok (.iconst 0, 1) := by decide +kernel
theorem dX12_areTogether_42 : decode cX12_areTogether 42 = .ok (.ireturn, 1) := by decide +kernel
theorem dX12_meet_0 : decode cX12_meet 0 = .ok (.aload_n 0, 1) := by decide +kernel
theorem dX12_meet_1 : decode cX12_meet 1 = .ok (.iload_n 1, 1) := by decide +kernel
theorem dX12_meet_2 : decode cX12_meet 2 = .ok (.invokevirtual 473, 3) := by decide +kernel
theorem dX12_meet_5 : decode cX12_meet 5 = .ok (.ifCond .eq 16, 3) := by decide +kernel
theorem dX12_meet_8 : decode cX12_meet 8 = .ok (.aload_n 0, 1) := by decide +kernel
theorem dX12_meet_9 : decode cX12_meet 9 = .ok (.iload_n 2, 1) := by decide +kernel
theorem dX12_meet_10 : decode cX12_meet 10 = .ok (.invokevirtual 473, 3) := by decide +kernel
theorem dX12_meet_13 : decode cX12_meet 13 = .ok (.ifCond .eq 8, 3) := by decide +kernel
theorem dX12_meet_16 : decode cX12_meet 16 = .ok (.iload_n 1, 1) := by decide +kernel
theorem dX12_meet_17 : decode cX12_meet 17 = .ok (.iload_n 2, 1) := by decide +kernel
theorem dX12_meet_18 : decode cX12_meet 18 = .ok (.if_icmp .ne 5, 3) := by decide +kernel
theorem dX12_meet_21 : decode cX12_meet 21 = .ok (.iconst (-1), 1) := by decide +kernel
theorem dX12_meet_22 : decode cX12_meet 22 = .ok (.ireturn, 1) := by decide +kernel
theorem dX12_meet_23 : decode cX12_meet 23 = .ok (.aload_n 0, 1) := by decide +kernel
theorem dX12_meet_24 : decode cX12_meet 24 = .ok (.iconst 1, 1) := by decide +kernel
theorem dX12_meet_25 : decode cX12_meet 25 = .ok (.iconst 0, 1) := by decide +kernel
theorem dX12_meet_26 : decode cX12_meet 26 = .ok (.invokevirtual 411, 3) := by decide +kernel
theorem dX12_meet_29 : decode cX12_meet 29 = .ok (.iconst 1, 1) := by decide +kernel
theorem dX12_meet_30 : decode cX12_meet 30 = .ok (.istore_n 3, 1) := by decide +kernel
theorem dX12_meet_31 : decode cX12_meet 31 = .ok (.aload_n 0, 1) := by decide +kernel
theorem dX12_meet_32 : decode cX12_meet 32 = .ok (.iload_n 3, 1) := by decide +kernel
theorem dX12_meet_33 : decode cX12_meet 33 = .ok (.iconst 1, 1) := by decide +kernel
theorem dX12_meet_34 : decode cX12_meet 34 = .ok (.bipush 40, 2) := by decide +kernel
theorem dX12_meet_36 : decode cX12_meet 36 = .ok (.invokevirtual 488, 3) := by decide +kernel
theorem dX12_meet_39 : decode cX12_meet 39 = .ok (.ifCond .eq 26, 3) := by decide +kernel
theorem dX12_meet_42 : decode cX12_meet 42 = .ok (.aload_n 0, 1) := by decide +kernel
theorem dX12_meet_43 : decode cX12_meet 43 = .ok (.iconst 1, 1) := by decide +kernel
theorem dX12_meet_44 : decode cX12_meet 44 = .ok (.invokevirtual 491, 3) := by decide +kernel
theorem dX12_meet_47 : decode cX12_meet 47 = .ok (.pop, 1) := by decide +kernel
theorem dX12_meet_48 : decode cX12_meet 48 = .ok (.aload_n 0, 1) := by decide +kernel
theorem dX12_meet_49 : decode cX12_meet 49 = .ok (.iload_n 1, 1) := by decide +kernel
theorem dX12_meet_50 : decode cX12_meet 50 = .ok (.iload_n 2, 1) := by decide +kernel
theorem dX12_meet_51 : decode cX12_meet 51 = .ok (.invokevirtual 494, 3) := by decide +kernel
theorem dX12_meet_54 : decode cX12_meet 54 = .ok (.ifCond .eq 5, 3) := by decide +kernel
theorem dX12_meet_57 : decode cX12_meet 57 = .ok (.iload_n 3, 1) := by decide +kernel
theorem dX12_meet_58 : decode cX12_meet 58 = .ok (.ireturn, 1) := by decide +kernel
theorem dX12_meet_59 : decode cX12_meet 59 = .ok (.iinc 3 1, 3) := by decide +kernel
theorem dX12_meet_62 : decode cX12_meet 62 = .ok (.goto (-31), 3) := by decide +kernel
theorem dX12_meet_65 : decode cX12_meet 65 = .ok (.iconst (-1), 1) := by decide +kernel
theorem dX12_meet_66 : decode cX12_meet 66 = .ok (.ireturn, 1) := by decide +kernel
theorem dX12_isAsNow_0 : decode cX12_isAsNow 0 = .ok (.iconst 0, 1) := by decide +kernel
theorem dX12_isAsNow_1 : decode cX12_isAsNow 1 = .ok (.istore_n 1, 1) := by decide +kernel
theorem dX12_isAsNow_2 : decode cX12_isAsNow 2 = .ok (.iload_n 1, 1) := by decide +kernel
theorem dX12_isAsNow_3 : decode cX12_isAsNow 3 = .ok (.aload_n 0, 1) := by decide +kernel
theorem dX12_isAsNow_4 : decode cX12_isAsNow 4 = .ok (.getfield 66, 3) := by decide +kernel
theorem dX12_isAsNow_7 : decode cX12_isAsNow 7 = .ok (.aload_n 0, 1) := by decide +kernel
theorem dX12_isAsNow_8 : decode cX12_isAsNow 8 = .ok (.getfield 51, 3) := by decide +kernel
theorem dX12_isAsNow_11 : decode cX12_isAsNow 11 = .ok (.iaload, 1) := by decide +kernel
theorem dX12_isAsNow_12 : decode cX12_isAsNow 12 = .ok (.if_icmp .ge 29, 3) := by decide +kernel
theorem dX12_isAsNow_15 : decode cX12_isAsNow 15 = .ok (.aload_n 0, 1) := by decide +kernel
theorem dX12_isAsNow_16 : decode cX12_isAsNow 16 = .ok (.getfield 159, 3) := by decide +kernel
theorem dX12_isAsNow_19 : decode cX12_isAsNow 19 = .ok (.bipush 6, 2) := by decide +kernel
theorem dX12_isAsNow_21 : decode cX12_isAsNow 21 = .ok (.iload_n 1, 1) := by decide +kernel
theorem dX12_isAsNow_22 : decode cX12_isAsNow 22 = .ok (.iadd, 1) := by decide +kernel
theorem dX12_isAsNow_23 : decode cX12_isAsNow 23 = .ok (.iaload, 1) := by decide +kernel
theorem dX12_isAsNow_24 : decode cX12_isAsNow 24 = .ok (.aload_n 0, 1) := by decide +kernel
theorem dX12_isAsNow_25 : decode cX12_isAsNow 25 = .ok (.getfield 159, 3) := by decide +kernel
theorem dX12_isAsNow_28 : decode cX12_isAsNow 28 = .ok (.iload_n 1, 1) := by decide +kernel
theorem dX12_isAsNow_29 : decode cX12_isAsNow 29 = .ok (.iaload, 1) := by decide +kernel
theorem dX12_isAsNow_30 : decode cX12_isAsNow 30 = .ok (.if_icmp .eq 5, 3) := by decide +kernel
theorem dX12_isAsNow_33 : decode cX12_isAsNow 33 = .ok (.iconst 0, 1) := by decide +kernel
theorem dX12_isAsNow_34 : decode cX12_isAsNow 34 = .ok (.ireturn, 1) := by decide +kernel
theorem dX12_isAsNow_35 : decode cX12_isAsNow 35 = .ok (.iinc 1 1, 3) := by decide +kernel
theorem dX12_isAsNow_38 : decode cX12_isAsNow 38 = .ok (.goto (-36), 3) := by decide +kernel
theorem dX12_isAsNow_41 : decode cX12_isAsNow 41 = .ok (.iconst 1, 1) := by decide +kernel
theorem dX12_isAsNow_42 : decode cX12_isAsNow 42 = .ok (.ireturn, 1) := by decide +kernel
theorem dX12_round_0 : decode cX12_round 0 = .ok (.aload_n 0, 1) := by decide +kernel
theorem dX12_round_1 : decode cX12_round 1 = .ok (.iconst 1, 1) := by decide +kernel
theorem dX12_round_2 : decode cX12_round 2 = .ok (.iconst 0, 1) := by decide +kernel
theorem dX12_round_3 : decode cX12_round 3 = .ok (.invokevirtual 411, 3) := by decide +kernel
theorem dX12_round_6 : decode cX12_round 6 = .ok (.iconst 1, 1) := by decide +kernel
theorem dX12_round_7 : decode cX12_round 7 = .ok (.istore_n 1, 1) := by decide +kernel
theorem dX12_round_8 : decode cX12_round 8 = .ok (.aload_n 0, 1) := by decide +kernel
theorem dX12_round_9 : decode cX12_round 9 = .ok (.iload_n 1, 1) := by decide +kernel
theorem dX12_round_10 : decode cX12_round 10 = .ok (.iconst 1, 1) := by decide +kernel
theorem dX12_round_11 : decode cX12_round 11 = .ok (.bipush 40, 2) := by decide +kernel
theorem dX12_round_13 : decode cX12_round 13 = .ok (.invokevirtual 488, 3) := by decide +kernel
theorem dX12_round_16 : decode cX12_round 16 = .ok (.ifCond .eq 24, 3) := by decide +kernel
theorem dX12_round_19 : decode cX12_round 19 = .ok (.aload_n 0, 1) := by decide +kernel
theorem dX12_round_20 : decode cX12_round 20 = .ok (.iconst 1, 1) := by decide +kernel
theorem dX12_round_21 : decode cX12_round 21 = .ok (.invokevirtual 491, 3) := by decide +kernel
theorem dX12_round_24 : decode cX12_round 24 = .ok (.pop, 1) := by decide +kernel
theorem dX12_round_25 : decode cX12_round 25 = .ok (.aload_n 0, 1) := by decide +kernel
theorem dX12_round_26 : decode cX12_round 26 = .ok (.invokevirtual 497, 3) := by decide +kernel
theorem dX12_round_29 : decode cX12_round 29 = .ok (.ifCond .eq 5, 3) := by decide +kernel
theorem dX12_round_32 : decode cX12_round 32 = .ok (.iload_n 1, 1) := by decide +kernel
theorem dX12_round_33 : decode cX12_round 33 = .ok (.ireturn, 1) := by decide +kernel
theorem dX12_round_34 : decode cX12_round 34 = .ok (.iinc 1 1, 3) := by decide +kernel
theorem dX12_round_37 : decode cX12_round 37 = .ok (.goto (-29), 3) := by decide +kernel
theorem dX12_round_40 : decode cX12_round 40 = .ok (.iconst (-1), 1) := by decide +kernel
theorem dX12_round_41 : decode cX12_round 41 = .ok (.ireturn, 1) := by decide +kernel
theorem dX12_see_0 : decode cX12_see 0 = .ok (.aload_n 0, 1) := by decide +kernel
theorem dX12_see_1 : decode cX12_see 1 = .ok (.getfield 13, 3) := by decide +kernel
theorem dX12_see_4 : decode cX12_see 4 = .ok (.istore_n 1, 1) := by decide +kernel
theorem dX12_see_5 : decode cX12_see 5 = .ok (.aload_n 0, 1) := by decide +kernel
theorem dX12_see_6 : decode cX12_see 6 = .ok (.iconst 0, 1) := by decide +kernel
theorem dX12_see_7 : decode cX12_see 7 = .ok (.putfield 13, 3) := by decide +kernel
theorem dX12_see_10 : decode cX12_see 10 = .ok (.iload_n 1, 1) := by decide +kernel
theorem dX12_see_11 : decode cX12_see 11 = .ok (.ifCond .le 19, 3) := by decide +kernel
theorem dX12_see_14 : decode cX12_see 14 = .ok (.iload_n 1, 1) := by decide +kernel
theorem dX12_see_15 : decode cX12_see 15 = .ok (.iconst 3, 1) := by decide +kernel
theorem dX12_see_16 : decode cX12_see 16 = .ok (.irem, 1) := by decide +kernel
theorem dX12_see_17 : decode cX12_see 17 = .ok (.ifCond .ne 13, 3) := by decide +kernel
theorem dX12_see_20 : decode cX12_see 20 = .ok (.iload_n 1, 1) := by decide +kernel
theorem dX12_see_21 : decode cX12_see 21 = .ok (.bipush 48, 2) := by decide +kernel
theorem dX12_see_23 : decode cX12_see 23 = .ok (.if_icmp .gt 7, 3) := by decide +kernel
theorem dX12_see_26 : decode cX12_see 26 = .ok (.iconst 1, 1) := by decide +kernel
theorem dX12_see_27 : decode cX12_see 27 = .ok (.goto 4, 3) := by decide +kernel
theorem dX12_see_30 : decode cX12_see 30 = .ok (.iconst 0, 1) := by decide +kernel
theorem dX12_see_31 : decode cX12_see 31 = .ok (.istore_n 2, 1) := by decide +kernel
theorem dX12_see_32 : decode cX12_see 32 = .ok (.iconst 0, 1) := by decide +kernel
theorem dX12_see_33 : decode cX12_see 33 = .ok (.istore_n 3, 1) := by decide +kernel
theorem dX12_see_34 : decode cX12_see 34 = .ok (.iload_n 3, 1) := by decide +kernel
theorem dX12_see_35 : decode cX12_see 35 = .ok (.iload_n 1, 1) := by decide +kernel
theorem dX12_see_36 : decode cX12_see 36 = .ok (.if_icmp .ge 49, 3) := by decide +kernel
theorem dX12_see_39 : decode cX12_see 39 = .ok (.iload_n 2, 1) := by decide +kernel
theorem dX12_see_40 : decode cX12_see 40 = .ok (.ifCond .eq 45, 3) := by decide +kernel
theorem dX12_see_43 : decode cX12_see 43 = .ok (.aload_n 0, 1) := by decide +kernel
theorem dX12_see_44 : decode cX12_see 44 = .ok (.getfield 7, 3) := by decide +kernel
theorem dX12_see_47 : decode cX12_see 47 = .ok (.iload_n 3, 1) := by decide +kernel
theorem dX12_see_48 : decode cX12_see 48 = .ok (.iaload, 1) := by decide +kernel
theorem dX12_see_49 : decode cX12_see 49 = .ok (.iconst 1, 1) := by decide +kernel
theorem dX12_see_50 : decode cX12_see 50 = .ok (.bipush 8, 2) := by decide +kernel
theorem dX12_see_52 : decode cX12_see 52 = .ok (.invokestatic 300, 3) := by decide +kernel
theorem dX12_see_55 : decode cX12_see 55 = .ok (.ifCond .eq 22, 3) := by decide +kernel
theorem dX12_see_58 : decode cX12_see 58 = .ok (.aload_n 0, 1) := by decide +kernel
theorem dX12_see_59 : decode cX12_see 59 = .ok (.aload_n 0, 1) := by decide +kernel
theorem dX12_see_60 : decode cX12_see 60 = .ok (.getfield 7, 3) := by decide +kernel
theorem dX12_see_63 : decode cX12_see 63 = .ok (.iload_n 3, 1) := by decide +kernel
theorem dX12_see_64 : decode cX12_see 64 = .ok (.iconst 1, 1) := by decide +kernel
theorem dX12_see_65 : decode cX12_see 65 = .ok (.iadd, 1) := by decide +kernel
theorem dX12_see_66 : decode cX12_see 66 = .ok (.iaload, 1) := by decide +kernel
theorem dX12_see_67 : decode cX12_see 67 = .ok (.invokevirtual 470, 3) := by decide +kernel
theorem dX12_see_70 : decode cX12_see 70 = .ok (.ifCond .eq 7, 3) := by decide +kernel
theorem dX12_see_73 : decode cX12_see 73 = .ok (.iconst 1, 1) := by decide +kernel
theorem dX12_see_74 : decode cX12_see 74 = .ok (.goto 4, 3) := by decide +kernel
theorem dX12_see_77 : decode cX12_see 77 = .ok (.iconst 0, 1) := by decide +kernel
theorem dX12_see_78 : decode cX12_see 78 = .ok (.istore_n 2, 1) := by decide +kernel
theorem dX12_see_79 : decode cX12_see 79 = .ok (.iinc 3 3, 3) := by decide +kernel
theorem dX12_see_82 : decode cX12_see 82 = .ok (.goto (-48), 3) := by decide +kernel
theorem dX12_see_85 : decode cX12_see 85 = .ok (.iload_n 2, 1) := by decide +kernel
theorem dX12_see_86 : decode cX12_see 86 = .ok (.ifCond .ne 9, 3) := by decide +kernel
theorem dX12_see_89 : decode cX12_see 89 = .ok (.aload_n 0, 1) := by decide +kernel
theorem dX12_see_90 : decode cX12_see 90 = .ok (.iconst 5, 1) := by decide +kernel
theorem dX12_see_91 : decode cX12_see 91 = .ok (.invokevirtual 216, 3) := by decide +kernel
theorem dX12_see_94 : decode cX12_see 94 = .ok (.ireturn, 1) := by decide +kernel
theorem dX12_see_95 : decode cX12_see 95 = .ok (.aload_n 0, 1) := by decide +kernel
theorem dX12_see_96 : decode cX12_see 96 = .ok (.iload_n 1, 1) := by decide +kernel
theorem dX12_see_97 : decode cX12_see 97 = .ok (.iconst 3, 1) := by decide +kernel
theorem dX12_see_98 : decode cX12_see 98 = .ok (.idiv, 1) := by decide +kernel
theorem dX12_see_99 : decode cX12_see 99 = .ok (.putfield 195, 3) := by decide +kernel
theorem dX12_see_102 : decode cX12_see 102 = .ok (.iconst 0, 1) := by decide +kernel
theorem dX12_see_103 : decode cX12_see 103 = .ok (.istore_n 3, 1) := by decide +kernel
theorem dX12_see_104 : decode cX12_see 104 = .ok (.iload_n 3, 1) := by decide +kernel
theorem dX12_see_105 : decode cX12_see 105 = .ok (.aload_n 0, 1) := by decide +kernel
theorem dX12_see_106 : decode cX12_see 106 = .ok (.getfield 195, 3) := by decide +kernel
theorem dX12_see_109 : decode cX12_see 109 = .ok (.if_icmp .ge 55, 3) := by decide +kernel
theorem dX12_see_112 : decode cX12_see 112 = .ok (.aload_n 0, 1) := by decide +kernel
theorem dX12_see_113 : decode cX12_see 113 = .ok (.getfield 198, 3) := by decide +kernel
theorem dX12_see_116 : decode cX12_see 116 = .ok (.iload_n 3, 1) := by decide +kernel
theorem dX12_see_117 : decode cX12_see 117 = .ok (.aload_n 0, 1) := by decide +kernel
theorem dX12_see_118 : decode cX12_see 118 = .ok (.getfield 7, 3) := by decide +kernel
theorem dX12_see_121 : decode cX12_see 121 = .ok (.iconst 3, 1) := by decide +kernel
theorem dX12_see_122 : decode cX12_see 122 = .ok (.iload_n 3, 1) := by decide +kernel
theorem dX12_see_123 : decode cX12_see 123 = .ok (.imul, 1) := by decide +kernel
theorem dX12_see_124 : decode cX12_see 124 = .ok (.iaload, 1) := by decide +kernel
theorem dX12_see_125 : decode cX12_see 125 = .ok (.iastore, 1) := by decide +kernel
theorem dX12_see_126 : decode cX12_see 126 = .ok (.aload_n 0, 1) := by decide +kernel
theorem dX12_see_127 : decode cX12_see 127 = .ok (.getfield 201, 3) := by decide +kernel
theorem dX12_see_130 : decode cX12_see 130 = .ok (.iload_n 3, 1) := by decide +kernel
theorem dX12_see_131 : decode cX12_see 131 = .ok (.aload_n 0, 1) := by decide +kernel
theorem dX12_see_132 : decode cX12_see 132 = .ok (.getfield 7, 3) := by decide +kernel
theorem dX12_see_135 : decode cX12_see 135 = .ok (.iconst 3, 1) := by decide +kernel
theorem dX12_see_136 : decode cX12_see 136 = .ok (.iload_n 3, 1) := by decide +kernel
theorem dX12_see_137 : decode cX12_see 137 = .ok (.imul, 1) := by decide +kernel
theorem dX12_see_138 : decode cX12_see 138 = .ok (.iconst 1, 1) := by decide +kernel
theorem dX12_see_139 : decode cX12_see 139 = .ok (.iadd, 1) := by decide +kernel
theorem dX12_see_140 : decode cX12_see 140 = .ok (.iaload, 1) := by decide +kernel
theorem dX12_see_141 : decode cX12_see 141 = .ok (.iastore, 1) := by decide +kernel
theorem dX12_see_142 : decode cX12_see 142 = .ok (.aload_n 0, 1) := by decide +kernel
theorem dX12_see_143 : decode cX12_see 143 = .ok (.getfield 204, 3) := by decide +kernel
theorem dX12_see_146 : decode cX12_see 146 = .ok (.iload_n 3, 1) := by decide +kernel
theorem dX12_see_147 : decode cX12_see 147 = .ok (.aload_n 0, 1) := by decide +kernel
theorem dX12_see_148 : decode cX12_see 148 = .ok (.getfield 7, 3) := by decide +kernel
theorem dX12_see_151 : decode cX12_see 151 = .ok (.iconst 3, 1) := by decide +kernel
theorem dX12_see_152 : decode cX12_see 152 = .ok (.iload_n 3, 1) := by decide +kernel
theorem dX12_see_153 : decode cX12_see 153 = .ok (.imul, 1) := by decide +kernel
theorem dX12_see_154 : decode cX12_see 154 = .ok (.iconst 2, 1) := by decide +kernel
theorem dX12_see_155 : decode cX12_see 155 = .ok (.iadd, 1) := by decide +kernel
theorem dX12_see_156 : decode cX12_see 156 = .ok (.iaload, 1) := by decide +kernel
theorem dX12_see_157 : decode cX12_see 157 = .ok (.iastore, 1) := by decide +kernel
theorem dX12_see_158 : decode cX12_see 158 = .ok (.iinc 3 1, 3) := by decide +kernel
theorem dX12_see_161 : decode cX12_see 161 = .ok (.goto (-57), 3) := by decide +kernel
theorem dX12_see_164 : decode cX12_see 164 = .ok (.aload_n 0, 1) := by decide +kernel
theorem dX12_see_165 : decode cX12_see 165 = .ok (.getfield 195, 3) := by decide +kernel
theorem dX12_see_168 : decode cX12_see 168 = .ok (.ireturn, 1) := by decide +kernel
set_option maxRecDepth 20000 in
theorem w_X12_letter_J110 {Y : YT} {X : CX} (C : Cx Y X cX12_letter 9 RX12 2) {Q : Int → Mem → Prop} (hR : Rt Y X (some .int) (PQi Y Q)) {s0 : Int}  {M : Mem}  (h : m_X12_letter_J110  Q s0 M) : G Y X 9 110 [] ((vI s0) :: []) M := by
  unfold m_X12_letter_J110 at h
  exact g_reti C hR dX12_letter_110 h
set_option maxRecDepth 20000 in
theorem w_X12_letter_L58 {Y : YT} {X : CX} (C : Cx Y X cX12_letter 9 RX12 2) {Q : Int → Mem → Prop} (hR : Rt Y X (some .int) (PQi Y Q)) {v3 : Int} {v4 : Int}  : ∀ (f : Nat) (v6 : Int) (v7 : Int) (M : Mem), m_X12_letter_L58  Q v3 v4 f v6 v7 M → G Y X 9 58 [(3, vI v3), (4, vL v4), (6, vI v6), (7, vL v7)] ([]) M := by
  intro f
  induction f with
  | zero =>
    intro v6 v7 M h
    exact (show False from h).elim
  | succ f ih =>
    intro v6 v7 M h
    unfold m_X12_letter_L58 at h
    refine g_lload (q := 3) C dX12_letter_58 rfl ?_
    refine g_lconst (v := 0) C dX12_letter_60 (by decide +kernel) ?_
    obtain ⟨g1, h⟩ := h
    obtain ⟨ht, hf⟩ := h
    refine g_lcmp_le (tgt := 78) C dX12_letter_61 dX12_letter_62 (by decide) g1 (by decide) (fun c => ?_) (fun c => ?_)
    · have h := ht c
      refine g_iload_n (q := 0) C dX12_letter_78 rfl rfl ?_
      refine g_iload (q := 2) C dX12_letter_79 rfl ?_
      obtain ⟨g2, h⟩ := h
      obtain ⟨g3, h⟩ := h
      obtain ⟨ht, hf⟩ := h
      refine g_icmp_lt (tgt := 88) C dX12_letter_81 (by decide) g2 g3 (fun c => ?_) (fun c => ?_)
      · have h := ht c
        refine g_lload (q := 1) C dX12_letter_88 rfl ?_
        refine g_bipush (v := 8) C dX12_letter_90 (by decide +kernel) ?_
        refine g_iload (q := 2) C dX12_letter_92 rfl ?_
        refine g_iconst C dX12_letter_94 rfl ?_
        refine g_isub C dX12_letter_95 ?_
        refine g_iload_n (q := 0) C dX12_letter_96 rfl rfl ?_
        refine g_isub C dX12_letter_97 ?_
        refine g_imul C dX12_letter_98 ?_
        refine g_lshr C dX12_letter_99 ?_
        refine g_ldc2 (v := 255) C dX12_letter_100 kX12_468 (by decide +kernel) ?_
        refine g_land C dX12_letter_103 ?_
        refine g_l2i C dX12_letter_104 ?_
        refine g_bipush (v := 97) C dX12_letter_105 (by decide +kernel) ?_
        refine g_isub C dX12_letter_107 ?_
        refine g_iconst C dX12_letter_108 rfl ?_
        refine g_iadd C dX12_letter_109 ?_
        refine G.sub [] rfl ?_
        exact w_X12_letter_J110 C hR  h
      · have h := hf c
        refine g_iconst C dX12_letter_84 rfl ?_
        refine g_goto (tgt := 110) C dX12_letter_85 (by decide) ?_
        refine G.sub [] rfl ?_
        exact w_X12_letter_J110 C hR  h
    · have h := hf c
      refine g_iinc (q := 2) (v := v6 + 1) (lv' := [(6, vI (v6 + 1)), (3, vI v3), (4, vL v4), (7, vL v7)]) C dX12_letter_65 rfl rfl (by decide) rfl ?_
      refine g_lload (q := 3) C dX12_letter_68 rfl ?_
      refine g_bipush (v := 8) C dX12_letter_70 (by decide +kernel) ?_
      refine g_lshr C dX12_letter_72 ?_
      refine g_lstore (lv' := [(7, vL (wshr v7 8)), (6, vI (v6 + 1)), (3, vI v3), (4, vL v4)]) C dX12_letter_73 (by decide) rfl ?_
      refine g_goto (tgt := 58) C dX12_letter_75 (by decide) ?_
      refine G.sub [2, 3, 1, 0] rfl ?_
      exact ih _ _ _ h
set_option maxRecDepth 20000 in
theorem w_X12_letter_J37 {Y : YT} {X : CX} (C : Cx Y X cX12_letter 9 RX12 2) {Q : Int → Mem → Prop} (hR : Rt Y X (some .int) (PQi Y Q))   {M : Mem}  (h : m_X12_letter_J37  Q  M) : G Y X 9 37 [] ([]) M := by
  unfold m_X12_letter_J37 at h
  refine g_iconst C dX12_letter_37 rfl ?_
  exact g_reti C hR dX12_letter_38 h
set_option maxRecDepth 20000 in
theorem t_X12_letter {l : Launch} {Y : YT} (hY : YOK Y) {a0 : Int} {a1 : Int} {a2 : Int} {M : Mem} {Q : Int → Mem → Prop} (h : m_X12_letter a0 a1 a2 M Q) : Ctr l Y yX12_letter cX12_letter 9 (some .int) 2 [vR Y 199, vI a0, vI a1, vI a2] M (PQi Y Q) := by
  unfold m_X12_letter at h
  refine ctr_ofF hY (by decide +kernel) (Nat.le_of_ble_eq_true rfl) [(0, vR Y 199), (1, vI a0), (2, vI a1), (3, vI a2)] rfl (fun X hX C hR => ?_)
  refine g_iload_n (q := 1) C dX12_letter_0 rfl rfl ?_
  refine g_iconst C dX12_letter_1 rfl ?_
  refine g_iconst C dX12_letter_2 rfl ?_
  refine g_cSi (As := [vI a0, vI 0, vI 1]) C clX12_300 clsX12_is dX12_letter_3 rfl (Nat.le_of_ble_eq_true rfl) rfl (by decide) (t_X12_is (Cx.ok C) h) (fun r5 M4 h => ?_)
  obtain ⟨g6, h⟩ := h
  obtain ⟨ht, hf⟩ := h
  refine g_if_eq (tgt := 37) C dX12_letter_6 (by decide) g6 (fun c => ?_) (fun c => ?_)
  · have h := ht c
    refine G.sub [] rfl ?_
    exact w_X12_letter_J37 C hR  h
  · have h := hf c
    refine g_iload_n (q := 2) C dX12_letter_9 rfl rfl ?_
    refine g_iconst C dX12_letter_10 rfl ?_
    refine g_aload_n (q := 0) C dX12_letter_11 rfl rfl ?_
    refine g_aload_n (q := 0) C dX12_letter_12 rfl rfl ?_
    refine g_getI C fX12_51 (by decide) dX12_letter_13 kd_199 ?_
    refine g_iload_n (q := 1) C dX12_letter_16 rfl rfl ?_
    refine g_cVi (As := [vI (M4 199 13), vI a0]) C clX12_292 clvX12_manyOf dX12_letter_17 kd_199 rfl (Nat.le_of_ble_eq_true rfl) rfl (by decide) (t_X12_manyOf (Cx.ok C) h) (fun r8 M7 h => ?_)
    refine g_iconst C dX12_letter_20 rfl ?_
    refine g_isub C dX12_letter_21 ?_
    refine g_cSi (As := [vI a1, vI 0, vI (r8 - 1)]) C clX12_300 clsX12_is dX12_letter_22 rfl (Nat.le_of_ble_eq_true rfl) rfl (by decide) (t_X12_is (Cx.ok C) h) (fun r10 M9 h => ?_)
    obtain ⟨g11, h⟩ := h
    obtain ⟨ht, hf⟩ := h
    refine g_if_eq (tgt := 37) C dX12_letter_25 (by decide) g11 (fun c => ?_) (fun c => ?_)
    · have h := ht c
      refine G.sub [] rfl ?_
      exact w_X12_letter_J37 C hR  h
    · have h := hf c
      refine g_iload_n (q := 3) C dX12_letter_28 rfl rfl ?_
      refine g_iconst C dX12_letter_29 rfl ?_
      refine g_iconst C dX12_letter_30 rfl ?_
      refine g_cSi (As := [vI a2, vI 0, vI 5]) C clX12_300 clsX12_is dX12_letter_31 rfl (Nat.le_of_ble_eq_true rfl) rfl (by decide) (t_X12_is (Cx.ok C) h) (fun r13 M12 h => ?_)
      obtain ⟨g14, h⟩ := h
      obtain ⟨ht, hf⟩ := h
      refine g_if_ne (tgt := 39) C dX12_letter_34 (by decide) g14 (fun c => ?_) (fun c => ?_)
      · have h := hf c
        refine g_aload_n (q := 0) C dX12_letter_39 rfl rfl ?_
        refine g_aload_n (q := 0) C dX12_letter_40 rfl rfl ?_
        refine g_getI C fX12_51 (by decide) dX12_letter_41 kd_199 ?_
        refine g_iload_n (q := 1) C dX12_letter_44 rfl rfl ?_
        refine g_iload_n (q := 2) C dX12_letter_45 rfl rfl ?_
        refine g_cVl (As := [vI (M12 199 13), vI a0, vI a1]) C clX12_296 clvX12_nameOf dX12_letter_46 kd_199 rfl (Nat.le_of_ble_eq_true rfl) rfl (by decide) (t_X12_nameOf (Cx.ok C) h) (fun r16 M15 h => ?_)
        refine g_lstore (lv' := [(4, vL r16), (0, vR Y 199), (1, vI a0), (2, vI a1), (3, vI a2)]) C dX12_letter_49 (by decide) rfl ?_
        refine g_iconst C dX12_letter_51 rfl ?_
        refine g_istore (lv' := [(6, vI 0), (4, vL r16), (0, vR Y 199), (1, vI a0), (2, vI a1), (3, vI a2)]) C dX12_letter_52 (by decide) rfl ?_
        refine g_lload (q := 1) C dX12_letter_54 rfl ?_
        refine g_lstore (lv' := [(7, vL r16), (6, vI 0), (4, vL r16), (0, vR Y 199), (1, vI a0), (2, vI a1), (3, vI a2)]) C dX12_letter_56 (by decide) rfl ?_
        obtain ⟨f0, h⟩ := h
        refine G.sub [6, 2, 1, 0] rfl ?_
        exact w_X12_letter_L58 C hR  f0 _ _ _ h
      · have h := ht c
        refine G.sub [] rfl ?_
        exact w_X12_letter_J37 C hR  h
set_option maxRecDepth 20000 in
theorem w_X12_far_J56 {Y : YT} {X : CX} (C : Cx Y X cX12_far 3 RX12 2) {Q : Int → Mem → Prop} (hR : Rt Y X (some .int) (PQi Y Q)) {s0 : Int}  {M : Mem}  (h : m_X12_far_J56  Q s0 M) : G Y X 3 56 [] ((vI s0) :: []) M := by
  unfold m_X12_far_J56 at h
  exact g_reti C hR dX12_far_56 h
set_option maxRecDepth 20000 in
theorem w_X12_far_J55 {Y : YT} {X : CX} (C : Cx Y X cX12_far 3 RX12 2) {Q : Int → Mem → Prop} (hR : Rt Y X (some .int) (PQi Y Q))   {M : Mem}  (h : m_X12_far_J55  Q  M) : G Y X 3 55 [] ([]) M := by
  unfold m_X12_far_J55 at h
  refine g_iconst C dX12_far_55 rfl ?_
  refine G.sub [] rfl ?_
  exact w_X12_far_J56 C hR  h
set_option maxRecDepth 20000 in
theorem t_X12_far {l : Launch} {Y : YT} (hY : YOK Y) {a0 : Int} {a1 : Int} {M : Mem} {Q : Int → Mem → Prop} (h : m_X12_far a0 a1 M Q) : Ctr l Y yX12_far cX12_far 3 (some .int) 2 [vR Y 199, vI a0, vI a1] M (PQi Y Q) := by
  unfold m_X12_far at h
  refine ctr_ofF hY (by decide +kernel) (Nat.le_of_ble_eq_true rfl) [(0, vR Y 199), (1, vI a0), (2, vI a1)] rfl (fun X hX C hR => ?_)
  refine g_aload_n (q := 0) C dX12_far_0 rfl rfl ?_
  refine g_iload_n (q := 1) C dX12_far_1 rfl rfl ?_
  refine g_cVi (As := [vI a0]) C clX12_470 clvX12_isPlace dX12_far_2 kd_199 rfl (Nat.le_of_ble_eq_true rfl) rfl (by decide) (t_X12_isPlace (Cx.ok C) h) (fun r2 M1 h => ?_)
  obtain ⟨g3, h⟩ := h
  obtain ⟨ht, hf⟩ := h
  refine g_if_eq (tgt := 55) C dX12_far_5 (by decide) g3 (fun c => ?_) (fun c => ?_)
  · have h := ht c
    refine G.sub [] rfl ?_
    exact w_X12_far_J55 C hR  h
  · have h := hf c
    refine g_aload_n (q := 0) C dX12_far_8 rfl rfl ?_
    refine g_iload_n (q := 2) C dX12_far_9 rfl rfl ?_
    refine g_cVi (As := [vI a1]) C clX12_470 clvX12_isPlace dX12_far_10 kd_199 rfl (Nat.le_of_ble_eq_true rfl) rfl (by decide) (t_X12_isPlace (Cx.ok C) h) (fun r5 M4 h => ?_)
    obtain ⟨g6, h⟩ := h
    obtain ⟨ht, hf⟩ := h
    refine g_if_eq (tgt := 55) C dX12_far_13 (by decide) g6 (fun c => ?_) (fun c => ?_)
    · have h := ht c
      refine G.sub [] rfl ?_
      exact w_X12_far_J55 C hR  h
    · have h := hf c
      refine g_aload_n (q := 0) C dX12_far_16 rfl rfl ?_
      refine g_getS (v := 204) C fX12_63 dX12_far_17 kd_199 rfl ?_
      refine g_aload_n (q := 0) C dX12_far_20 rfl rfl ?_
      refine g_aload_n (q := 0) C dX12_far_21 rfl rfl ?_
      refine g_getI C fX12_51 (by decide) dX12_far_22 kd_199 ?_
      refine g_iload_n (q := 1) C dX12_far_25 rfl rfl ?_
      refine g_iload_n (q := 2) C dX12_far_26 rfl rfl ?_
      refine g_cVi (As := [vI (M4 199 13), vI a0, vI a1]) C clX12_361 clvX12_at dX12_far_27 kd_199 rfl (Nat.le_of_ble_eq_true rfl) rfl (by decide) (t_X12_at (Cx.ok C) h) (fun r8 M7 h => ?_)
      obtain ⟨g9, h⟩ := h
      refine g_iald C dX12_far_30 kd_204 ln_204 g9 ?_
      refine g_ldcw (v := 100000000) C dX12_far_31 kX12_395 (by decide +kernel) ?_
      obtain ⟨g10, h⟩ := h
      obtain ⟨ht, hf⟩ := h
      refine g_icmp_ge (tgt := 55) C dX12_far_34 (by decide) g10 (by decide) (fun c => ?_) (fun c => ?_)
      · have h := ht c
        refine G.sub [] rfl ?_
        exact w_X12_far_J55 C hR  h
      · have h := hf c
        refine g_aload_n (q := 0) C dX12_far_37 rfl rfl ?_
        refine g_getS (v := 204) C fX12_63 dX12_far_38 kd_199 rfl ?_
        refine g_aload_n (q := 0) C dX12_far_41 rfl rfl ?_
        refine g_aload_n (q := 0) C dX12_far_42 rfl rfl ?_
        refine g_getI C fX12_51 (by decide) dX12_far_43 kd_199 ?_
        refine g_iload_n (q := 1) C dX12_far_46 rfl rfl ?_
        refine g_iload_n (q := 2) C dX12_far_47 rfl rfl ?_
        refine g_cVi (As := [vI (M7 199 13), vI a0, vI a1]) C clX12_361 clvX12_at dX12_far_48 kd_199 rfl (Nat.le_of_ble_eq_true rfl) rfl (by decide) (t_X12_at (Cx.ok C) h) (fun r12 M11 h => ?_)
        obtain ⟨g13, h⟩ := h
        refine g_iald C dX12_far_51 kd_204 ln_204 g13 ?_
        refine g_goto (tgt := 56) C dX12_far_52 (by decide) ?_
        refine G.sub [] rfl ?_
        exact w_X12_far_J56 C hR  h
set_option maxRecDepth 20000 in
theorem w_X12_person_J72 {Y : YT} {X : CX} (C : Cx Y X cX12_person 3 RX12 2) {Q : Int → Mem → Prop} (hR : Rt Y X (some .int) (PQi Y Q)) {s0 : Int}  {M : Mem}  (h : m_X12_person_J72  Q s0 M) : G Y X 3 72 [] ((vI s0) :: []) M := by
  unfold m_X12_person_J72 at h
  exact g_reti C hR dX12_person_72 h
set_option maxRecDepth 20000 in
theorem t_X12_person {l : Launch} {Y : YT} (hY : YOK Y) {a0 : Int} {a1 : Int} {M : Mem} {Q : Int → Mem → Prop} (h : m_X12_person a0 a1 M Q) : Ctr l Y yX12_person cX12_person 3 (some .int) 2 [vR Y 199, vI a0, vI a1] M (PQi Y Q) := by
  unfold m_X12_person at h
  refine ctr_ofF hY (by decide +kernel) (Nat.le_of_ble_eq_true rfl) [(0, vR Y 199), (1, vI a0), (2, vI a1)] rfl (fun X hX C hR => ?_)
  refine g_aload_n (q := 0) C dX12_person_0 rfl rfl ?_
  refine g_iload_n (q := 1) C dX12_person_1 rfl rfl ?_
  refine g_cVi (As := [vI a0]) C clX12_473 clvX12_isPerson dX12_person_2 kd_199 rfl (Nat.le_of_ble_eq_true rfl) rfl (by decide) (t_X12_isPerson (Cx.ok C) h) (fun r2 M1 h => ?_)
  obtain ⟨g3, h⟩ := h
  obtain ⟨ht, hf⟩ := h
  refine g_if_ne (tgt := 10) C dX12_person_5 (by decide) g3 (fun c => ?_) (fun c => ?_)
  · have h := hf c
    refine g_iload_n (q := 2) C dX12_person_10 rfl rfl ?_
    obtain ⟨g4, h⟩ := h
    obtain ⟨ht, hf⟩ := h
    refine g_if_ne (tgt := 23) C dX12_person_11 (by decide) g4 (fun c => ?_) (fun c => ?_)
    · have h := hf c
      refine g_iload_n (q := 2) C dX12_person_23 rfl rfl ?_
      refine g_iconst C dX12_person_24 rfl ?_
      obtain ⟨g5, h⟩ := h
      obtain ⟨ht, hf⟩ := h
      refine g_icmp_ne (tgt := 45) C dX12_person_25 (by decide) g5 (by decide) (fun c => ?_) (fun c => ?_)
      · have h := hf c
        refine g_iload_n (q := 2) C dX12_person_45 rfl rfl ?_
        refine g_iconst C dX12_person_46 rfl ?_
        obtain ⟨g6, h⟩ := h
        obtain ⟨ht, hf⟩ := h
        refine g_icmp_ne (tgt := 71) C dX12_person_47 (by decide) g6 (by decide) (fun c => ?_) (fun c => ?_)
        · have h := hf c
          refine g_iconst C dX12_person_71 rfl ?_
          refine G.sub [] rfl ?_
          exact w_X12_person_J72 C hR  h
        · have h := ht c
          refine g_aload_n (q := 0) C dX12_person_50 rfl rfl ?_
          refine g_getS (v := 229) C fX12_162 dX12_person_51 kd_199 rfl ?_
          refine g_iconst C dX12_person_54 rfl ?_
          refine g_iald C dX12_person_55 kd_229 ln_229 (by decide) ?_
          refine g_iload_n (q := 1) C dX12_person_56 rfl rfl ?_
          refine g_cSi (As := [vI (M1 229 0), vI a0]) C clX12_342 clsX12_has2 dX12_person_57 rfl (Nat.le_of_ble_eq_true rfl) rfl (by decide) (t_X12_has2 (Cx.ok C) h) (fun r8 M7 h => ?_)
          obtain ⟨g9, h⟩ := h
          obtain ⟨ht, hf⟩ := h
          refine g_if_eq (tgt := 67) C dX12_person_60 (by decide) g9 (fun c => ?_) (fun c => ?_)
          · have h := ht c
            refine g_iconst C dX12_person_67 rfl ?_
            refine g_goto (tgt := 72) C dX12_person_68 (by decide) ?_
            refine G.sub [] rfl ?_
            exact w_X12_person_J72 C hR  h
          · have h := hf c
            refine g_iconst C dX12_person_63 rfl ?_
            refine g_goto (tgt := 72) C dX12_person_64 (by decide) ?_
            refine G.sub [] rfl ?_
            exact w_X12_person_J72 C hR  h
      · have h := ht c
        refine g_aload_n (q := 0) C dX12_person_28 rfl rfl ?_
        refine g_getS (v := 207) C fX12_72 dX12_person_29 kd_199 rfl ?_
        refine g_bipush (v := 6) C dX12_person_32 (by decide +kernel) ?_
        refine g_aload_n (q := 0) C dX12_person_34 rfl rfl ?_
        refine g_getI C fX12_51 (by decide) dX12_person_35 kd_199 ?_
        refine g_imul C dX12_person_38 ?_
        refine g_iload_n (q := 1) C dX12_person_39 rfl rfl ?_
        refine g_iadd C dX12_person_40 ?_
        obtain ⟨g10, h⟩ := h
        refine g_iald C dX12_person_41 kd_207 ln_207 g10 ?_
        refine g_goto (tgt := 72) C dX12_person_42 (by decide) ?_
        refine G.sub [] rfl ?_
        exact w_X12_person_J72 C hR  h
    · have h := ht c
      refine g_aload_n (q := 0) C dX12_person_14 rfl rfl ?_
      refine g_getS (v := 228) C fX12_159 dX12_person_15 kd_199 rfl ?_
      refine g_iload_n (q := 1) C dX12_person_18 rfl rfl ?_
      obtain ⟨g11, h⟩ := h
      refine g_iald C dX12_person_19 kd_228 ln_228 g11 ?_
      refine g_goto (tgt := 72) C dX12_person_20 (by decide) ?_
      refine G.sub [] rfl ?_
      exact w_X12_person_J72 C hR  h
  · have h := ht c
    refine g_iconst C dX12_person_8 rfl ?_
    exact g_reti C hR dX12_person_9 h
set_option maxRecDepth 20000 in
theorem w_X12_whoAt_J44 {Y : YT} {X : CX} (C : Cx Y X cX12_whoAt 5 RX12 1) {Q : Int → Mem → Prop} (hR : Rt Y X (some .int) (PQi Y Q)) {v1 : Int} {v2 : Int} {v4 : Int} {s0 : Int} {s1 : Int} {k5 : Int → Int → Mem → Prop} (hk5 : ∀ (v3 : Int) (v4 : Int)  (M : Mem), k5 v3 v4 M → G Y X 5 5 [(0, vR Y 199), (1, vI v1), (2, vI v2), (3, vI v3), (4, vI v4)] ([]) M) {M : Mem}  (h : m_X12_whoAt_J44 k5 Q v1 v2 v4 s0 s1 M) : G Y X 5 44 [(0, vR Y 199), (1, vI v1), (2, vI v2), (4, vI v4)] ((vI s1) :: (vI s0) :: []) M := by
  unfold m_X12_whoAt_J44 at h
  refine g_ior C dX12_whoAt_44 ?_
  refine g_istore_n (lv' := [(3, vI (zor s0 s1)), (0, vR Y 199), (1, vI v1), (2, vI v2), (4, vI v4)]) C dX12_whoAt_45 rfl (by decide) rfl ?_
  refine g_iinc (q := 4) (v := v4 + 1) (lv' := [(4, vI (v4 + 1)), (3, vI (zor s0 s1)), (0, vR Y 199), (1, vI v1), (2, vI v2)]) C dX12_whoAt_46 rfl rfl (by decide) rfl ?_
  refine g_goto (tgt := 5) C dX12_whoAt_49 (by decide) ?_
  refine G.sub [2, 3, 4, 1, 0] rfl ?_
  exact hk5 _ _ _ h
set_option maxRecDepth 20000 in
theorem w_X12_whoAt_L5 {Y : YT} {X : CX} (C : Cx Y X cX12_whoAt 5 RX12 1) {Q : Int → Mem → Prop} (hR : Rt Y X (some .int) (PQi Y Q)) {v1 : Int} {v2 : Int}  : ∀ (f : Nat) (v3 : Int) (v4 : Int) (M : Mem), m_X12_whoAt_L5  Q v1 v2 f v3 v4 M → G Y X 5 5 [(0, vR Y 199), (1, vI v1), (2, vI v2), (3, vI v3), (4, vI v4)] ([]) M := by
  intro f
  induction f with
  | zero =>
    intro v3 v4 M h
    exact (show False from h).elim
  | succ f ih =>
    intro v3 v4 M h
    unfold m_X12_whoAt_L5 at h
    refine g_iload (q := 4) C dX12_whoAt_5 rfl ?_
    refine g_aload_n (q := 0) C dX12_whoAt_7 rfl rfl ?_
    refine g_getS (v := 205) C fX12_66 dX12_whoAt_8 kd_199 rfl ?_
    refine g_aload_n (q := 0) C dX12_whoAt_11 rfl rfl ?_
    refine g_getI C fX12_51 (by decide) dX12_whoAt_12 kd_199 ?_
    obtain ⟨g1, h⟩ := h
    refine g_iald C dX12_whoAt_15 kd_205 ln_205 g1 ?_
    obtain ⟨g2, h⟩ := h
    obtain ⟨g3, h⟩ := h
    obtain ⟨ht, hf⟩ := h
    refine g_icmp_ge (tgt := 52) C dX12_whoAt_16 (by decide) g2 g3 (fun c => ?_) (fun c => ?_)
    · have h := ht c
      refine g_iload_n (q := 3) C dX12_whoAt_52 rfl rfl ?_
      exact g_reti C hR dX12_whoAt_53 h
    · have h := hf c
      refine g_iload_n (q := 3) C dX12_whoAt_19 rfl rfl ?_
      refine g_aload_n (q := 0) C dX12_whoAt_20 rfl rfl ?_
      refine g_getS (v := 236) C fX12_192 dX12_whoAt_21 kd_199 rfl ?_
      refine g_bipush (v := 6) C dX12_whoAt_24 (by decide +kernel) ?_
      refine g_iload_n (q := 1) C dX12_whoAt_26 rfl rfl ?_
      refine g_imul C dX12_whoAt_27 ?_
      refine g_iload (q := 4) C dX12_whoAt_28 rfl ?_
      refine g_iadd C dX12_whoAt_30 ?_
      obtain ⟨g4, h⟩ := h
      refine g_iald C dX12_whoAt_31 kd_236 ln_236 g4 ?_
      refine g_iload_n (q := 2) C dX12_whoAt_32 rfl rfl ?_
      obtain ⟨g5, h⟩ := h
      obtain ⟨g6, h⟩ := h
      obtain ⟨ht, hf⟩ := h
      refine g_icmp_ne (tgt := 43) C dX12_whoAt_33 (by decide) g5 g6 (fun c => ?_) (fun c => ?_)
      · have h := hf c
        refine g_iconst C dX12_whoAt_43 rfl ?_
        refine G.sub [0, 1, 2, 4] rfl ?_
        exact w_X12_whoAt_J44 C hR (ih)  h
      · have h := ht c
        refine g_iconst C dX12_whoAt_36 rfl ?_
        refine g_iload (q := 4) C dX12_whoAt_37 rfl ?_
        refine g_ishl C dX12_whoAt_39 ?_
        refine g_goto (tgt := 44) C dX12_whoAt_40 (by decide) ?_
        refine G.sub [0, 1, 2, 4] rfl ?_
        exact w_X12_whoAt_J44 C hR (ih)  h
set_option maxRecDepth 20000 in
theorem t_X12_whoAt {l : Launch} {Y : YT} (hY : YOK Y) {a0 : Int} {a1 : Int} {M : Mem} {Q : Int → Mem → Prop} (h : m_X12_whoAt a0 a1 M Q) : Ctr l Y yX12_whoAt cX12_whoAt 5 (some .int) 1 [vR Y 199, vI a0, vI a1] M (PQi Y Q) := by
  unfold m_X12_whoAt at h
  refine ctr_ofF hY (by decide +kernel) (Nat.le_of_ble_eq_true rfl) [(0, vR Y 199), (1, vI a0), (2, vI a1)] rfl (fun X hX C hR => ?_)
  refine g_iconst C dX12_whoAt_0 rfl ?_
  refine g_istore_n (lv' := [(3, vI 0), (0, vR Y 199), (1, vI a0), (2, vI a1)]) C dX12_whoAt_1 rfl (by decide) rfl ?_
  refine g_iconst C dX12_whoAt_2 rfl ?_
  refine g_istore (lv' := [(4, vI 0), (3, vI 0), (0, vR Y 199), (1, vI a0), (2, vI a1)]) C dX12_whoAt_3 (by decide) rfl ?_
  obtain ⟨f0, h⟩ := h
  refine G.sub [2, 3, 4, 1, 0] rfl ?_
  exact w_X12_whoAt_L5 C hR  f0 _ _ _ h
set_option maxRecDepth 20000 in
theorem w_X12_frame_J92 {Y : YT} {X : CX} (C : Cx Y X cX12_frame 3 RX12 6) {Q : Int → Mem → Prop} (hR : Rt Y X (some .int) (PQi Y Q)) {s0 : Int}  {M : Mem}  (h : m_X12_frame_J92  Q s0 M) : G Y X 3 92 [] ((vI s0) :: []) M := by
  unfold m_X12_frame_J92 at h
  exact g_reti C hR dX12_frame_92 h
set_option maxRecDepth 20000 in
theorem w_X12_frame_J25 {Y : YT} {X : CX} (C : Cx Y X cX12_frame 3 RX12 6) {Q : Int → Mem → Prop} (hR : Rt Y X (some .int) (PQi Y Q))   {M : Mem}  (h : m_X12_frame_J25  Q  M) : G Y X 3 25 [] ([]) M := by
  unfold m_X12_frame_J25 at h
  refine g_iconst C dX12_frame_25 rfl ?_
  exact g_reti C hR dX12_frame_26 h
set_option maxRecDepth 20000 in
theorem t_X12_frame {l : Launch} {Y : YT} (hY : YOK Y) {a0 : Int} {a1 : Int} {M : Mem} {Q : Int → Mem → Prop} (h : m_X12_frame a0 a1 M Q) : Ctr l Y yX12_frame cX12_frame 3 (some .int) 6 [vR Y 199, vI a0, vI a1] M (PQi Y Q) := by
  unfold m_X12_frame at h
  refine ctr_ofF hY (by decide +kernel) (Nat.le_of_ble_eq_true rfl) [(0, vR Y 199), (1, vI a0), (2, vI a1)] rfl (fun X hX C hR => ?_)
  refine g_iload_n (q := 1) C dX12_frame_0 rfl rfl ?_
  refine g_iconst C dX12_frame_1 rfl ?_
  refine g_aload_n (q := 0) C dX12_frame_2 rfl rfl ?_
  refine g_getS (v := 230) C fX12_165 dX12_frame_3 kd_199 rfl ?_
  refine g_iconst C dX12_frame_6 rfl ?_
  refine g_iald C dX12_frame_7 kd_230 ln_230 (by decide) ?_
  refine g_iconst C dX12_frame_8 rfl ?_
  refine g_isub C dX12_frame_9 ?_
  refine g_cSi (As := [vI a0, vI 0, vI ((M 230 0) - 1)]) C clX12_300 clsX12_is dX12_frame_10 rfl (Nat.le_of_ble_eq_true rfl) rfl (by decide) (t_X12_is (Cx.ok C) h) (fun r2 M1 h => ?_)
  obtain ⟨g3, h⟩ := h
  obtain ⟨ht, hf⟩ := h
  refine g_if_eq (tgt := 25) C dX12_frame_13 (by decide) g3 (fun c => ?_) (fun c => ?_)
  · have h := ht c
    refine G.sub [] rfl ?_
    exact w_X12_frame_J25 C hR  h
  · have h := hf c
    refine g_iload_n (q := 2) C dX12_frame_16 rfl rfl ?_
    refine g_iconst C dX12_frame_17 rfl ?_
    refine g_iconst C dX12_frame_18 rfl ?_
    refine g_cSi (As := [vI a1, vI 0, vI 4]) C clX12_300 clsX12_is dX12_frame_19 rfl (Nat.le_of_ble_eq_true rfl) rfl (by decide) (t_X12_is (Cx.ok C) h) (fun r5 M4 h => ?_)
    obtain ⟨g6, h⟩ := h
    obtain ⟨ht, hf⟩ := h
    refine g_if_ne (tgt := 27) C dX12_frame_22 (by decide) g6 (fun c => ?_) (fun c => ?_)
    · have h := hf c
      refine g_iload_n (q := 2) C dX12_frame_27 rfl rfl ?_
      refine g_iconst C dX12_frame_28 rfl ?_
      obtain ⟨g7, h⟩ := h
      obtain ⟨ht, hf⟩ := h
      refine g_icmp_ge (tgt := 43) C dX12_frame_29 (by decide) g7 (by decide) (fun c => ?_) (fun c => ?_)
      · have h := ht c
        refine g_aload_n (q := 0) C dX12_frame_43 rfl rfl ?_
        refine g_iconst C dX12_frame_44 rfl ?_
        refine g_cVv (As := [vI 0]) C clX12_453 clvX12_runs dX12_frame_45 kd_199 rfl (Nat.le_of_ble_eq_true rfl) rfl (by decide) (t_X12_runs (Cx.ok C) h) (fun M8 h => ?_)
        refine g_iload_n (q := 2) C dX12_frame_48 rfl rfl ?_
        refine g_iconst C dX12_frame_49 rfl ?_
        obtain ⟨g9, h⟩ := h
        obtain ⟨ht, hf⟩ := h
        refine g_icmp_ne (tgt := 70) C dX12_frame_50 (by decide) g9 (by decide) (fun c => ?_) (fun c => ?_)
        · have h := hf c
          refine g_aload_n (q := 0) C dX12_frame_70 rfl rfl ?_
          refine g_aload_n (q := 0) C dX12_frame_71 rfl rfl ?_
          refine g_getS (v := 231) C fX12_168 dX12_frame_72 kd_199 rfl ?_
          refine g_iconst C dX12_frame_75 rfl ?_
          refine g_iload_n (q := 1) C dX12_frame_76 rfl rfl ?_
          refine g_imul C dX12_frame_77 ?_
          obtain ⟨g10, h⟩ := h
          refine g_iald C dX12_frame_78 kd_231 ln_231 g10 ?_
          refine g_aload_n (q := 0) C dX12_frame_79 rfl rfl ?_
          refine g_getS (v := 231) C fX12_168 dX12_frame_80 kd_199 rfl ?_
          refine g_iconst C dX12_frame_83 rfl ?_
          refine g_iload_n (q := 1) C dX12_frame_84 rfl rfl ?_
          refine g_imul C dX12_frame_85 ?_
          refine g_iconst C dX12_frame_86 rfl ?_
          refine g_iadd C dX12_frame_87 ?_
          obtain ⟨g11, h⟩ := h
          refine g_iald C dX12_frame_88 kd_231 ln_231 g11 ?_
          refine g_cVi (As := [vI (M8 231 (3 * a0)), vI (M8 231 ((3 * a0) + 1))]) C clX12_476 clvX12_whoAt dX12_frame_89 kd_199 rfl (Nat.le_of_ble_eq_true rfl) rfl (by decide) (t_X12_whoAt (Cx.ok C) h) (fun r13 M12 h => ?_)
          refine G.sub [] rfl ?_
          exact w_X12_frame_J92 C hR  h
        · have h := ht c
          refine g_aload_n (q := 0) C dX12_frame_53 rfl rfl ?_
          refine g_iconst C dX12_frame_54 rfl ?_
          refine g_iload_n (q := 1) C dX12_frame_55 rfl rfl ?_
          refine g_cVi (As := [vI 0, vI a0]) C clX12_450 clvX12_isTrue dX12_frame_56 kd_199 rfl (Nat.le_of_ble_eq_true rfl) rfl (by decide) (t_X12_isTrue (Cx.ok C) h) (fun r15 M14 h => ?_)
          obtain ⟨g16, h⟩ := h
          obtain ⟨ht, hf⟩ := h
          refine g_if_eq (tgt := 66) C dX12_frame_59 (by decide) g16 (fun c => ?_) (fun c => ?_)
          · have h := ht c
            refine g_iconst C dX12_frame_66 rfl ?_
            refine g_goto (tgt := 92) C dX12_frame_67 (by decide) ?_
            refine G.sub [] rfl ?_
            exact w_X12_frame_J92 C hR  h
          · have h := hf c
            refine g_iconst C dX12_frame_62 rfl ?_
            refine g_goto (tgt := 92) C dX12_frame_63 (by decide) ?_
            refine G.sub [] rfl ?_
            exact w_X12_frame_J92 C hR  h
      · have h := hf c
        refine g_aload_n (q := 0) C dX12_frame_32 rfl rfl ?_
        refine g_getS (v := 231) C fX12_168 dX12_frame_33 kd_199 rfl ?_
        refine g_iconst C dX12_frame_36 rfl ?_
        refine g_iload_n (q := 1) C dX12_frame_37 rfl rfl ?_
        refine g_imul C dX12_frame_38 ?_
        refine g_iload_n (q := 2) C dX12_frame_39 rfl rfl ?_
        refine g_iadd C dX12_frame_40 ?_
        obtain ⟨g17, h⟩ := h
        refine g_iald C dX12_frame_41 kd_231 ln_231 g17 ?_
        exact g_reti C hR dX12_frame_42 h
    · have h := ht c
      refine G.sub [] rfl ?_
      exact w_X12_frame_J25 C hR  h
set_option maxRecDepth 20000 in
theorem w_X12_where_J18 {Y : YT} {X : CX} (C : Cx Y X cX12_where 3 RX12 6) {Q : Int → Mem → Prop} (hR : Rt Y X (some .int) (PQi Y Q))   {M : Mem}  (h : m_X12_where_J18  Q  M) : G Y X 3 18 [] ([]) M := by
  unfold m_X12_where_J18 at h
  refine g_iconst C dX12_where_18 rfl ?_
  exact g_reti C hR dX12_where_19 h
set_option maxRecDepth 20000 in
theorem t_X12_where {l : Launch} {Y : YT} (hY : YOK Y) {a0 : Int} {a1 : Int} {M : Mem} {Q : Int → Mem → Prop} (h : m_X12_where a0 a1 M Q) : Ctr l Y yX12_where cX12_where 3 (some .int) 6 [vR Y 199, vI a0, vI a1] M (PQi Y Q) := by
  unfold m_X12_where at h
  refine ctr_ofF hY (by decide +kernel) (Nat.le_of_ble_eq_true rfl) [(0, vR Y 199), (1, vI a0), (2, vI a1)] rfl (fun X hX C hR => ?_)
  refine g_aload_n (q := 0) C dX12_where_0 rfl rfl ?_
  refine g_iload_n (q := 1) C dX12_where_1 rfl rfl ?_
  refine g_cVi (As := [vI a0]) C clX12_473 clvX12_isPerson dX12_where_2 kd_199 rfl (Nat.le_of_ble_eq_true rfl) rfl (by decide) (t_X12_isPerson (Cx.ok C) h) (fun r2 M1 h => ?_)
  obtain ⟨g3, h⟩ := h
  obtain ⟨ht, hf⟩ := h
  refine g_if_eq (tgt := 18) C dX12_where_5 (by decide) g3 (fun c => ?_) (fun c => ?_)
  · have h := ht c
    refine G.sub [] rfl ?_
    exact w_X12_where_J18 C hR  h
  · have h := hf c
    refine g_iload_n (q := 2) C dX12_where_8 rfl rfl ?_
    refine g_iconst C dX12_where_9 rfl ?_
    refine g_bipush (v := 8) C dX12_where_10 (by decide +kernel) ?_
    refine g_cSi (As := [vI a1, vI 0, vI 8]) C clX12_300 clsX12_is dX12_where_12 rfl (Nat.le_of_ble_eq_true rfl) rfl (by decide) (t_X12_is (Cx.ok C) h) (fun r5 M4 h => ?_)
    obtain ⟨g6, h⟩ := h
    obtain ⟨ht, hf⟩ := h
    refine g_if_ne (tgt := 20) C dX12_where_15 (by decide) g6 (fun c => ?_) (fun c => ?_)
    · have h := hf c
      refine g_aload_n (q := 0) C dX12_where_20 rfl rfl ?_
      refine g_iconst C dX12_where_21 rfl ?_
      refine g_cVv (As := [vI 0]) C clX12_453 clvX12_runs dX12_where_22 kd_199 rfl (Nat.le_of_ble_eq_true rfl) rfl (by decide) (t_X12_runs (Cx.ok C) h) (fun M7 h => ?_)
      refine g_aload_n (q := 0) C dX12_where_25 rfl rfl ?_
      refine g_getS (v := 236) C fX12_192 dX12_where_26 kd_199 rfl ?_
      refine g_bipush (v := 6) C dX12_where_29 (by decide +kernel) ?_
      refine g_iload_n (q := 2) C dX12_where_31 rfl rfl ?_
      refine g_imul C dX12_where_32 ?_
      refine g_iload_n (q := 1) C dX12_where_33 rfl rfl ?_
      refine g_iadd C dX12_where_34 ?_
      obtain ⟨g8, h⟩ := h
      refine g_iald C dX12_where_35 kd_236 ln_236 g8 ?_
      exact g_reti C hR dX12_where_36 h
    · have h := ht c
      refine G.sub [] rfl ?_
      exact w_X12_where_J18 C hR  h
set_option maxRecDepth 20000 in
theorem w_X12_who_J18 {Y : YT} {X : CX} (C : Cx Y X cX12_who 3 RX12 6) {Q : Int → Mem → Prop} (hR : Rt Y X (some .int) (PQi Y Q))   {M : Mem}  (h : m_X12_who_J18  Q  M) : G Y X 3 18 [] ([]) M := by
  unfold m_X12_who_J18 at h
  refine g_iconst C dX12_who_18 rfl ?_
  exact g_reti C hR dX12_who_19 h
set_option maxRecDepth 20000 in
theorem t_X12_who {l : Launch} {Y : YT} (hY : YOK Y) {a0 : Int} {a1 : Int} {M : Mem} {Q : Int → Mem → Prop} (h : m_X12_who a0 a1 M Q) : Ctr l Y yX12_who cX12_who 3 (some .int) 6 [vR Y 199, vI a0, vI a1] M (PQi Y Q) := by
  unfold m_X12_who at h
  refine ctr_ofF hY (by decide +kernel) (Nat.le_of_ble_eq_true rfl) [(0, vR Y 199), (1, vI a0), (2, vI a1)] rfl (fun X hX C hR => ?_)
  refine g_aload_n (q := 0) C dX12_who_0 rfl rfl ?_
  refine g_iload_n (q := 1) C dX12_who_1 rfl rfl ?_
  refine g_cVi (As := [vI a0]) C clX12_470 clvX12_isPlace dX12_who_2 kd_199 rfl (Nat.le_of_ble_eq_true rfl) rfl (by decide) (t_X12_isPlace (Cx.ok C) h) (fun r2 M1 h => ?_)
  obtain ⟨g3, h⟩ := h
  obtain ⟨ht, hf⟩ := h
  refine g_if_eq (tgt := 18) C dX12_who_5 (by decide) g3 (fun c => ?_) (fun c => ?_)
  · have h := ht c
    refine G.sub [] rfl ?_
    exact w_X12_who_J18 C hR  h
  · have h := hf c
    refine g_iload_n (q := 2) C dX12_who_8 rfl rfl ?_
    refine g_iconst C dX12_who_9 rfl ?_
    refine g_bipush (v := 8) C dX12_who_10 (by decide +kernel) ?_
    refine g_cSi (As := [vI a1, vI 0, vI 8]) C clX12_300 clsX12_is dX12_who_12 rfl (Nat.le_of_ble_eq_true rfl) rfl (by decide) (t_X12_is (Cx.ok C) h) (fun r5 M4 h => ?_)
    obtain ⟨g6, h⟩ := h
    obtain ⟨ht, hf⟩ := h
    refine g_if_ne (tgt := 20) C dX12_who_15 (by decide) g6 (fun c => ?_) (fun c => ?_)
    · have h := hf c
      refine g_aload_n (q := 0) C dX12_who_20 rfl rfl ?_
      refine g_iconst C dX12_who_21 rfl ?_
      refine g_cVv (As := [vI 0]) C clX12_453 clvX12_runs dX12_who_22 kd_199 rfl (Nat.le_of_ble_eq_true rfl) rfl (by decide) (t_X12_runs (Cx.ok C) h) (fun M7 h => ?_)
      refine g_aload_n (q := 0) C dX12_who_25 rfl rfl ?_
      refine g_iload_n (q := 2) C dX12_who_26 rfl rfl ?_
      refine g_iload_n (q := 1) C dX12_who_27 rfl rfl ?_
      refine g_cVi (As := [vI a1, vI a0]) C clX12_476 clvX12_whoAt dX12_who_28 kd_199 rfl (Nat.le_of_ble_eq_true rfl) rfl (by decide) (t_X12_whoAt (Cx.ok C) h) (fun r9 M8 h => ?_)
      exact g_reti C hR dX12_who_31 h
    · have h := ht c
      refine G.sub [] rfl ?_
      exact w_X12_who_J18 C hR  h
set_option maxRecDepth 20000 in
theorem w_X12_agrees_J13 {Y : YT} {X : CX} (C : Cx Y X cX12_agrees 1 RX12 7) {Q : Int → Mem → Prop} (hR : Rt Y X (some .int) (PQi Y Q)) {s0 : Int}  {M : Mem}  (h : m_X12_agrees_J13  Q s0 M) : G Y X 1 13 [] ((vI s0) :: []) M := by
  unfold m_X12_agrees_J13 at h
  exact g_reti C hR dX12_agrees_13 h
set_option maxRecDepth 20000 in
theorem t_X12_agrees {l : Launch} {Y : YT} (hY : YOK Y) {M : Mem} {Q : Int → Mem → Prop} (h : m_X12_agrees  M Q) : Ctr l Y yX12_agrees cX12_agrees 1 (some .int) 7 [vR Y 199] M (PQi Y Q) := by
  unfold m_X12_agrees at h
  refine ctr_ofF hY (by decide +kernel) (Nat.le_of_ble_eq_true rfl) [(0, vR Y 199)] rfl (fun X hX C hR => ?_)
  refine g_aload_n (q := 0) C dX12_agrees_0 rfl rfl ?_
  refine g_iconst C dX12_agrees_1 rfl ?_
  refine g_cVi (As := [vI 0]) C clX12_459 clvX12_isAgreed dX12_agrees_2 kd_199 rfl (Nat.le_of_ble_eq_true rfl) rfl (by decide) (t_X12_isAgreed (Cx.ok C) h) (fun r2 M1 h => ?_)
  obtain ⟨g3, h⟩ := h
  obtain ⟨ht, hf⟩ := h
  refine g_if_eq (tgt := 12) C dX12_agrees_5 (by decide) g3 (fun c => ?_) (fun c => ?_)
  · have h := ht c
    refine g_iconst C dX12_agrees_12 rfl ?_
    refine G.sub [] rfl ?_
    exact w_X12_agrees_J13 C hR  h
  · have h := hf c
    refine g_iconst C dX12_agrees_8 rfl ?_
    refine g_goto (tgt := 13) C dX12_agrees_9 (by decide) ?_
    refine G.sub [] rfl ?_
    exact w_X12_agrees_J13 C hR  h
set_option maxRecDepth 20000 in
theorem w_X12_self_J106 {Y : YT} {X : CX} (C : Cx Y X cX12_self 6 RX12 6) {Q : Int → Mem → Prop} (hR : Rt Y X (some .int) (PQi Y Q)) {v1 : Int} {v2 : Int} {v4 : Int} {s0 : Int} {s1 : Int} {k25 : Int → Int → Mem → Prop} (hk25 : ∀ (v3 : Int) (v4 : Int)  (M : Mem), k25 v3 v4 M → G Y X 6 25 [(0, vR Y 199), (1, vI v1), (2, vI v2), (3, vI v3), (4, vI v4)] ([]) M) {M : Mem}  (h : m_X12_self_J106 k25 Q v1 v2 v4 s0 s1 M) : G Y X 6 106 [(0, vR Y 199), (1, vI v1), (2, vI v2), (4, vI v4)] ((vI s1) :: (vI s0) :: []) M := by
  unfold m_X12_self_J106 at h
  refine g_ior C dX12_self_106 ?_
  refine g_istore_n (lv' := [(3, vI (zor s0 s1)), (0, vR Y 199), (1, vI v1), (2, vI v2), (4, vI v4)]) C dX12_self_107 rfl (by decide) rfl ?_
  refine g_iinc (q := 4) (v := v4 + 1) (lv' := [(4, vI (v4 + 1)), (3, vI (zor s0 s1)), (0, vR Y 199), (1, vI v1), (2, vI v2)]) C dX12_self_108 rfl rfl (by decide) rfl ?_
  refine g_goto (tgt := 25) C dX12_self_111 (by decide) ?_
  refine G.sub [2, 3, 4, 1, 0] rfl ?_
  exact hk25 _ _ _ h
set_option maxRecDepth 20000 in
theorem w_X12_self_J81 {Y : YT} {X : CX} (C : Cx Y X cX12_self 6 RX12 6) {Q : Int → Mem → Prop} (hR : Rt Y X (some .int) (PQi Y Q)) {v1 : Int} {v2 : Int} {v3 : Int} {v4 : Int} {k25 : Int → Int → Mem → Prop} (hk25 : ∀ (v3 : Int) (v4 : Int)  (M : Mem), k25 v3 v4 M → G Y X 6 25 [(0, vR Y 199), (1, vI v1), (2, vI v2), (3, vI v3), (4, vI v4)] ([]) M) {M : Mem}  (h : m_X12_self_J81 k25 Q v1 v2 v3 v4 M) : G Y X 6 81 [(0, vR Y 199), (1, vI v1), (2, vI v2), (3, vI v3), (4, vI v4)] ([]) M := by
  unfold m_X12_self_J81 at h
  refine g_aload_n (q := 0) C dX12_self_81 rfl rfl ?_
  refine g_iconst C dX12_self_82 rfl ?_
  refine g_cVv (As := [vI 1]) C clX12_453 clvX12_runs dX12_self_83 kd_199 rfl (Nat.le_of_ble_eq_true rfl) rfl (by decide) (t_X12_runs (Cx.ok C) h) (fun M1 h => ?_)
  refine g_iload_n (q := 3) C dX12_self_86 rfl rfl ?_
  refine g_aload_n (q := 0) C dX12_self_87 rfl rfl ?_
  refine g_iload_n (q := 1) C dX12_self_88 rfl rfl ?_
  refine g_iload_n (q := 2) C dX12_self_89 rfl rfl ?_
  refine g_cVi (As := [vI v1, vI v2]) C clX12_430 clvX12_manyAt dX12_self_90 kd_199 rfl (Nat.le_of_ble_eq_true rfl) rfl (by decide) (t_X12_manyAt (Cx.ok C) h) (fun r3 M2 h => ?_)
  refine g_iload (q := 4) C dX12_self_93 rfl ?_
  obtain ⟨g4, h⟩ := h
  obtain ⟨g5, h⟩ := h
  obtain ⟨ht, hf⟩ := h
  refine g_icmp_ne (tgt := 105) C dX12_self_95 (by decide) g4 g5 (fun c => ?_) (fun c => ?_)
  · have h := hf c
    refine g_iconst C dX12_self_105 rfl ?_
    refine G.sub [0, 1, 2, 4] rfl ?_
    exact w_X12_self_J106 C hR (hk25)  h
  · have h := ht c
    refine g_iconst C dX12_self_98 rfl ?_
    refine g_iload (q := 4) C dX12_self_99 rfl ?_
    refine g_ishl C dX12_self_101 ?_
    refine g_goto (tgt := 106) C dX12_self_102 (by decide) ?_
    refine G.sub [0, 1, 2, 4] rfl ?_
    exact w_X12_self_J106 C hR (hk25)  h
set_option maxRecDepth 20000 in
theorem w_X12_self_L25 {Y : YT} {X : CX} (C : Cx Y X cX12_self 6 RX12 6) {Q : Int → Mem → Prop} (hR : Rt Y X (some .int) (PQi Y Q)) {v1 : Int} {v2 : Int}  : ∀ (f : Nat) (v3 : Int) (v4 : Int) (M : Mem), m_X12_self_L25  Q v1 v2 f v3 v4 M → G Y X 6 25 [(0, vR Y 199), (1, vI v1), (2, vI v2), (3, vI v3), (4, vI v4)] ([]) M := by
  intro f
  induction f with
  | zero =>
    intro v3 v4 M h
    exact (show False from h).elim
  | succ f ih =>
    intro v3 v4 M h
    unfold m_X12_self_L25 at h
    refine g_iload (q := 4) C dX12_self_25 rfl ?_
    refine g_bipush (v := 6) C dX12_self_27 (by decide +kernel) ?_
    obtain ⟨g6, h⟩ := h
    obtain ⟨ht, hf⟩ := h
    refine g_icmp_gt (tgt := 114) C dX12_self_29 (by decide) g6 (by decide) (fun c => ?_) (fun c => ?_)
    · have h := ht c
      refine g_iload_n (q := 3) C dX12_self_114 rfl rfl ?_
      exact g_reti C hR dX12_self_115 h
    · have h := hf c
      refine g_aload_n (q := 0) C dX12_self_32 rfl rfl ?_
      refine g_iconst C dX12_self_33 rfl ?_
      refine g_iconst C dX12_self_34 rfl ?_
      refine g_cVv (As := [vI 1, vI 0]) C clX12_411 clvX12_copies dX12_self_35 kd_199 rfl (Nat.le_of_ble_eq_true rfl) rfl (by decide) (t_X12_copies (Cx.ok C) h) (fun M7 h => ?_)
      refine g_aload_n (q := 0) C dX12_self_38 rfl rfl ?_
      refine g_iconst C dX12_self_39 rfl ?_
      refine g_iload_n (q := 1) C dX12_self_40 rfl rfl ?_
      refine g_iload_n (q := 2) C dX12_self_41 rfl rfl ?_
      refine g_cVi (As := [vI 1, vI v1, vI v2]) C clX12_479 clvX12_frameAt dX12_self_42 kd_199 rfl (Nat.le_of_ble_eq_true rfl) rfl (by decide) (t_X12_frameAt (Cx.ok C) h) (fun r9 M8 h => ?_)
      refine g_istore (lv' := [(5, vI r9), (0, vR Y 199), (1, vI v1), (2, vI v2), (3, vI v3), (4, vI v4)]) C dX12_self_45 (by decide) rfl ?_
      refine g_iload (q := 0) C dX12_self_47 rfl ?_
      refine g_iconst C dX12_self_49 rfl ?_
      obtain ⟨g10, h⟩ := h
      obtain ⟨ht, hf⟩ := h
      refine g_icmp_ne (tgt := 65) C dX12_self_50 (by decide) g10 (by decide) (fun c => ?_) (fun c => ?_)
      · have h := hf c
        refine g_aload_n (q := 1) C dX12_self_65 rfl rfl ?_
        refine g_getS (v := 231) C fX12_168 dX12_self_66 kd_199 rfl ?_
        refine g_iconst C dX12_self_69 rfl ?_
        refine g_bipush (v := 9) C dX12_self_70 (by decide +kernel) ?_
        refine g_iload (q := 0) C dX12_self_72 rfl ?_
        refine g_iadd C dX12_self_74 ?_
        refine g_imul C dX12_self_75 ?_
        refine g_iconst C dX12_self_76 rfl ?_
        refine g_iadd C dX12_self_77 ?_
        refine g_iload (q := 5) C dX12_self_78 rfl ?_
        obtain ⟨g11, h⟩ := h
        obtain ⟨M12, e_M12⟩ : ∃ z : Mem, z = up M8 231 ((3 * (9 + r9)) + 2) v4 := ⟨_, rfl⟩
        have h := h M12 e_M12
        refine g_iast C dX12_self_80 kd_231 ln_231 g11 e_M12 ?_
        refine G.sub [1, 2, 3, 4, 5] rfl ?_
        exact w_X12_self_J81 C hR (ih)  h
      · have h := ht c
        refine g_aload_n (q := 1) C dX12_self_53 rfl rfl ?_
        refine g_iconst C dX12_self_54 rfl ?_
        refine g_iload_n (q := 2) C dX12_self_55 rfl rfl ?_
        refine g_iload_n (q := 3) C dX12_self_56 rfl rfl ?_
        refine g_iload (q := 5) C dX12_self_57 rfl ?_
        refine g_cVv (As := [vI 1, vI v1, vI v2, vI v4]) C clX12_482 clvX12_shows dX12_self_59 kd_199 rfl (Nat.le_of_ble_eq_true rfl) rfl (by decide) (t_X12_shows (Cx.ok C) h) (fun M13 h => ?_)
        refine g_goto (tgt := 81) C dX12_self_62 (by decide) ?_
        refine G.sub [1, 2, 3, 4, 5] rfl ?_
        exact w_X12_self_J81 C hR (ih)  h
set_option maxRecDepth 20000 in
theorem w_X12_self_J18 {Y : YT} {X : CX} (C : Cx Y X cX12_self 6 RX12 6) {Q : Int → Mem → Prop} (hR : Rt Y X (some .int) (PQi Y Q))   {M : Mem}  (h : m_X12_self_J18  Q  M) : G Y X 6 18 [] ([]) M := by
  unfold m_X12_self_J18 at h
  refine g_iconst C dX12_self_18 rfl ?_
  exact g_reti C hR dX12_self_19 h
set_option maxRecDepth 20000 in
theorem t_X12_self {l : Launch} {Y : YT} (hY : YOK Y) {a0 : Int} {a1 : Int} {M : Mem} {Q : Int → Mem → Prop} (h : m_X12_self a0 a1 M Q) : Ctr l Y yX12_self cX12_self 6 (some .int) 6 [vR Y 199, vI a0, vI a1] M (PQi Y Q) := by
  unfold m_X12_self at h
  refine ctr_ofF hY (by decide +kernel) (Nat.le_of_ble_eq_true rfl) [(0, vR Y 199), (1, vI a0), (2, vI a1)] rfl (fun X hX C hR => ?_)
  refine g_aload_n (q := 0) C dX12_self_0 rfl rfl ?_
  refine g_iload_n (q := 2) C dX12_self_1 rfl rfl ?_
  refine g_cVi (As := [vI a1]) C clX12_470 clvX12_isPlace dX12_self_2 kd_199 rfl (Nat.le_of_ble_eq_true rfl) rfl (by decide) (t_X12_isPlace (Cx.ok C) h) (fun r15 M14 h => ?_)
  obtain ⟨g16, h⟩ := h
  obtain ⟨ht, hf⟩ := h
  refine g_if_eq (tgt := 18) C dX12_self_5 (by decide) g16 (fun c => ?_) (fun c => ?_)
  · have h := ht c
    refine G.sub [] rfl ?_
    exact w_X12_self_J18 C hR  h
  · have h := hf c
    refine g_iload_n (q := 1) C dX12_self_8 rfl rfl ?_
    refine g_iconst C dX12_self_9 rfl ?_
    refine g_bipush (v := 8) C dX12_self_10 (by decide +kernel) ?_
    refine g_cSi (As := [vI a0, vI 1, vI 8]) C clX12_300 clsX12_is dX12_self_12 rfl (Nat.le_of_ble_eq_true rfl) rfl (by decide) (t_X12_is (Cx.ok C) h) (fun r18 M17 h => ?_)
    obtain ⟨g19, h⟩ := h
    obtain ⟨ht, hf⟩ := h
    refine g_if_ne (tgt := 20) C dX12_self_15 (by decide) g19 (fun c => ?_) (fun c => ?_)
    · have h := hf c
      refine g_iconst C dX12_self_20 rfl ?_
      refine g_istore_n (lv' := [(3, vI 0), (0, vR Y 199), (1, vI a0), (2, vI a1)]) C dX12_self_21 rfl (by decide) rfl ?_
      refine g_iconst C dX12_self_22 rfl ?_
      refine g_istore (lv' := [(4, vI 0), (3, vI 0), (0, vR Y 199), (1, vI a0), (2, vI a1)]) C dX12_self_23 (by decide) rfl ?_
      obtain ⟨f0, h⟩ := h
      refine G.sub [2, 3, 4, 1, 0] rfl ?_
      exact w_X12_self_L25 C hR  f0 _ _ _ h
    · have h := ht c
      refine G.sub [] rfl ?_
      exact w_X12_self_J18 C hR  h
set_option maxRecDepth 20000 in
theorem w_X12_cuts_J78 {Y : YT} {X : CX} (C : Cx Y X cX12_cuts 4 RX12 7) {Q : Int → Mem → Prop} (hR : Rt Y X (some .int) (PQi Y Q)) {v1 : Int} {v2 : Int} {k4 : Int → Int → Mem → Prop} (hk4 : ∀ (v1 : Int) (v2 : Int)  (M : Mem), k4 v1 v2 M → G Y X 4 4 [(0, vR Y 199), (1, vI v1), (2, vI v2)] ([]) M) {M : Mem}  (h : m_X12_cuts_J78 k4 Q v1 v2 M) : G Y X 4 78 [(0, vR Y 199), (1, vI v1), (2, vI v2)] ([]) M := by
  unfold m_X12_cuts_J78 at h
  refine g_iinc (q := 2) (v := v2 + 1) (lv' := [(2, vI (v2 + 1)), (0, vR Y 199), (1, vI v1)]) C dX12_cuts_78 rfl rfl (by decide) rfl ?_
  refine g_goto (tgt := 4) C dX12_cuts_81 (by decide) ?_
  refine G.sub [1, 2, 0] rfl ?_
  exact hk4 _ _ _ h
set_option maxRecDepth 20000 in
theorem w_X12_cuts_J62 {Y : YT} {X : CX} (C : Cx Y X cX12_cuts 4 RX12 7) {Q : Int → Mem → Prop} (hR : Rt Y X (some .int) (PQi Y Q)) {v1 : Int} {v2 : Int} {v3 : Int} {k4 : Int → Int → Mem → Prop} (hk4 : ∀ (v1 : Int) (v2 : Int)  (M : Mem), k4 v1 v2 M → G Y X 4 4 [(0, vR Y 199), (1, vI v1), (2, vI v2)] ([]) M) {k44 : Int → Mem → Prop} (hk44 : ∀ (v3 : Int)  (M : Mem), k44 v3 M → G Y X 4 44 [(0, vR Y 199), (1, vI v1), (2, vI v2), (3, vI v3)] ([]) M) {M : Mem}  (h : m_X12_cuts_J62 k4 k44 Q v1 v2 v3 M) : G Y X 4 62 [(0, vR Y 199), (1, vI v1), (2, vI v2), (3, vI v3)] ([]) M := by
  unfold m_X12_cuts_J62 at h
  refine g_iinc (q := 3) (v := v3 + (-1)) (lv' := [(3, vI (v3 + (-1))), (0, vR Y 199), (1, vI v1), (2, vI v2)]) C dX12_cuts_62 rfl rfl (by decide) rfl ?_
  refine g_goto (tgt := 44) C dX12_cuts_65 (by decide) ?_
  refine G.sub [1, 2, 3, 0] rfl ?_
  exact hk44 _ _ h
set_option maxRecDepth 20000 in
theorem w_X12_cuts_L44 {Y : YT} {X : CX} (C : Cx Y X cX12_cuts 4 RX12 7) {Q : Int → Mem → Prop} (hR : Rt Y X (some .int) (PQi Y Q)) {v1 : Int} {v2 : Int} {k4 : Int → Int → Mem → Prop} (hk4 : ∀ (v1 : Int) (v2 : Int)  (M : Mem), k4 v1 v2 M → G Y X 4 4 [(0, vR Y 199), (1, vI v1), (2, vI v2)] ([]) M) : ∀ (f : Nat) (v3 : Int) (M : Mem), m_X12_cuts_L44 k4 Q v1 v2 f v3 M → G Y X 4 44 [(0, vR Y 199), (1, vI v1), (2, vI v2), (3, vI v3)] ([]) M := by
  intro f
  induction f with
  | zero =>
    intro v3 M h
    exact (show False from h).elim
  | succ f ih =>
    intro v3 M h
    unfold m_X12_cuts_L44 at h
    refine g_iload_n (q := 3) C dX12_cuts_44 rfl rfl ?_
    obtain ⟨g1, h⟩ := h
    obtain ⟨ht, hf⟩ := h
    refine g_if_lt (tgt := 68) C dX12_cuts_45 (by decide) g1 (fun c => ?_) (fun c => ?_)
    · have h := ht c
      refine g_aload_n (q := 0) C dX12_cuts_68 rfl rfl ?_
      refine g_iconst C dX12_cuts_69 rfl ?_
      refine g_cVi (As := [vI 1]) C clX12_459 clvX12_isAgreed dX12_cuts_70 kd_199 rfl (Nat.le_of_ble_eq_true rfl) rfl (by decide) (t_X12_isAgreed (Cx.ok C) h) (fun r3 M2 h => ?_)
      obtain ⟨g4, h⟩ := h
      obtain ⟨ht, hf⟩ := h
      refine g_if_eq (tgt := 78) C dX12_cuts_73 (by decide) g4 (fun c => ?_) (fun c => ?_)
      · have h := ht c
        refine G.sub [0, 1, 2] rfl ?_
        exact w_X12_cuts_J78 C hR (hk4)  h
      · have h := hf c
        refine g_iload_n (q := 2) C dX12_cuts_76 rfl rfl ?_
        refine g_istore_n (lv' := [(1, vI v2), (0, vR Y 199), (2, vI v2), (3, vI v3)]) C dX12_cuts_77 rfl (by decide) rfl ?_
        refine G.sub [1, 0, 2] rfl ?_
        exact w_X12_cuts_J78 C hR (hk4)  h
    · have h := hf c
      refine g_iload_n (q := 2) C dX12_cuts_48 rfl rfl ?_
      refine g_iload_n (q := 3) C dX12_cuts_49 rfl rfl ?_
      refine g_cSi (As := [vI v2, vI v3]) C clX12_342 clsX12_has2 dX12_cuts_50 rfl (Nat.le_of_ble_eq_true rfl) rfl (by decide) (t_X12_has2 (Cx.ok C) h) (fun r6 M5 h => ?_)
      obtain ⟨g7, h⟩ := h
      obtain ⟨ht, hf⟩ := h
      refine g_if_eq (tgt := 62) C dX12_cuts_53 (by decide) g7 (fun c => ?_) (fun c => ?_)
      · have h := ht c
        refine G.sub [0, 1, 2, 3] rfl ?_
        exact w_X12_cuts_J62 C hR (hk4) (ih)  h
      · have h := hf c
        refine g_aload_n (q := 0) C dX12_cuts_56 rfl rfl ?_
        refine g_iconst C dX12_cuts_57 rfl ?_
        refine g_iload_n (q := 3) C dX12_cuts_58 rfl rfl ?_
        refine g_cVv (As := [vI 1, vI v3]) C clX12_485 clvX12_takes dX12_cuts_59 kd_199 rfl (Nat.le_of_ble_eq_true rfl) rfl (by decide) (t_X12_takes (Cx.ok C) h) (fun M8 h => ?_)
        refine G.sub [0, 1, 2, 3] rfl ?_
        exact w_X12_cuts_J62 C hR (hk4) (ih)  h
set_option maxRecDepth 20000 in
theorem w_X12_cuts_J35 {Y : YT} {X : CX} (C : Cx Y X cX12_cuts 4 RX12 7) {Q : Int → Mem → Prop} (hR : Rt Y X (some .int) (PQi Y Q)) {v1 : Int} {v2 : Int} {k4 : Int → Int → Mem → Prop} (hk4 : ∀ (v1 : Int) (v2 : Int)  (M : Mem), k4 v1 v2 M → G Y X 4 4 [(0, vR Y 199), (1, vI v1), (2, vI v2)] ([]) M) {M : Mem}  (h : m_X12_cuts_J35 k4 Q v1 v2 M) : G Y X 4 35 [(0, vR Y 199), (1, vI v1), (2, vI v2)] ([]) M := by
  unfold m_X12_cuts_J35 at h
  refine g_aload_n (q := 0) C dX12_cuts_35 rfl rfl ?_
  refine g_iconst C dX12_cuts_36 rfl ?_
  refine g_iconst C dX12_cuts_37 rfl ?_
  refine g_cVv (As := [vI 1, vI 0]) C clX12_411 clvX12_copies dX12_cuts_38 kd_199 rfl (Nat.le_of_ble_eq_true rfl) rfl (by decide) (t_X12_copies (Cx.ok C) h) (fun M9 h => ?_)
  refine g_bipush (v := 7) C dX12_cuts_41 (by decide +kernel) ?_
  refine g_istore_n (lv' := [(3, vI 7), (0, vR Y 199), (1, vI v1), (2, vI v2)]) C dX12_cuts_43 rfl (by decide) rfl ?_
  obtain ⟨f0, h⟩ := h
  refine G.sub [1, 2, 3, 0] rfl ?_
  exact w_X12_cuts_L44 C hR (hk4)  f0 _ _ h
set_option maxRecDepth 20000 in
theorem w_X12_cuts_L4 {Y : YT} {X : CX} (C : Cx Y X cX12_cuts 4 RX12 7) {Q : Int → Mem → Prop} (hR : Rt Y X (some .int) (PQi Y Q))   : ∀ (f : Nat) (v1 : Int) (v2 : Int) (M : Mem), m_X12_cuts_L4  Q f v1 v2 M → G Y X 4 4 [(0, vR Y 199), (1, vI v1), (2, vI v2)] ([]) M := by
  intro f
  induction f with
  | zero =>
    intro v1 v2 M h
    exact (show False from h).elim
  | succ f ih =>
    intro v1 v2 M h
    unfold m_X12_cuts_L4 at h
    refine g_iload_n (q := 2) C dX12_cuts_4 rfl rfl ?_
    refine g_iconst C dX12_cuts_5 rfl ?_
    refine g_aload_n (q := 0) C dX12_cuts_6 rfl rfl ?_
    refine g_getS (v := 230) C fX12_165 dX12_cuts_7 kd_199 rfl ?_
    refine g_iconst C dX12_cuts_10 rfl ?_
    refine g_iald C dX12_cuts_11 kd_230 ln_230 (by decide) ?_
    refine g_ishl C dX12_cuts_12 ?_
    obtain ⟨g10, h⟩ := h
    obtain ⟨g11, h⟩ := h
    obtain ⟨ht, hf⟩ := h
    refine g_icmp_ge (tgt := 84) C dX12_cuts_13 (by decide) g10 g11 (fun c => ?_) (fun c => ?_)
    · have h := ht c
      refine g_iload_n (q := 1) C dX12_cuts_84 rfl rfl ?_
      exact g_reti C hR dX12_cuts_85 h
    · have h := hf c
      refine g_iload_n (q := 1) C dX12_cuts_16 rfl rfl ?_
      refine g_iconst C dX12_cuts_17 rfl ?_
      obtain ⟨g12, h⟩ := h
      obtain ⟨ht, hf⟩ := h
      refine g_icmp_eq (tgt := 35) C dX12_cuts_18 (by decide) g12 (by decide) (fun c => ?_) (fun c => ?_)
      · have h := ht c
        refine G.sub [0, 1, 2] rfl ?_
        exact w_X12_cuts_J35 C hR (ih)  h
      · have h := hf c
        refine g_iload_n (q := 2) C dX12_cuts_21 rfl rfl ?_
        refine g_cSi (As := [vI v2]) C clX12_465 clsX12_bits dX12_cuts_22 rfl (Nat.le_of_ble_eq_true rfl) rfl (by decide) (t_X12_bits (Cx.ok C) h) (fun r14 M13 h => ?_)
        refine g_iload_n (q := 1) C dX12_cuts_25 rfl rfl ?_
        refine g_cSi (As := [vI v1]) C clX12_465 clsX12_bits dX12_cuts_26 rfl (Nat.le_of_ble_eq_true rfl) rfl (by decide) (t_X12_bits (Cx.ok C) h) (fun r16 M15 h => ?_)
        obtain ⟨g17, h⟩ := h
        obtain ⟨g18, h⟩ := h
        obtain ⟨ht, hf⟩ := h
        refine g_icmp_lt (tgt := 35) C dX12_cuts_29 (by decide) g17 g18 (fun c => ?_) (fun c => ?_)
        · have h := ht c
          refine G.sub [0, 1, 2] rfl ?_
          exact w_X12_cuts_J35 C hR (ih)  h
        · have h := hf c
          refine g_goto (tgt := 78) C dX12_cuts_32 (by decide) ?_
          refine G.sub [0, 1, 2] rfl ?_
          exact w_X12_cuts_J78 C hR (ih)  h
set_option maxRecDepth 20000 in
theorem t_X12_cuts {l : Launch} {Y : YT} (hY : YOK Y) {M : Mem} {Q : Int → Mem → Prop} (h : m_X12_cuts  M Q) : Ctr l Y yX12_cuts cX12_cuts 4 (some .int) 7 [vR Y 199] M (PQi Y Q) := by
  unfold m_X12_cuts at h
  refine ctr_ofF hY (by decide +kernel) (Nat.le_of_ble_eq_true rfl) [(0, vR Y 199)] rfl (fun X hX C hR => ?_)
  refine g_iconst C dX12_cuts_0 rfl ?_
  refine g_istore_n (lv' := [(1, vI (-1)), (0, vR Y 199)]) C dX12_cuts_1 rfl (by decide) rfl ?_
  refine g_iconst C dX12_cuts_2 rfl ?_
  refine g_istore_n (lv' := [(2, vI 0), (1, vI (-1)), (0, vR Y 199)]) C dX12_cuts_3 rfl (by decide) rfl ?_
  obtain ⟨f0, h⟩ := h
  refine G.sub [2, 1, 0] rfl ?_
  exact w_X12_cuts_L4 C hR  f0 _ _ _ h
set_option maxRecDepth 20000 in
theorem w_X12_crowd_J61 {Y : YT} {X : CX} (C : Cx Y X cX12_crowd 3 RX12 7) {Q : Int → Mem → Prop} (hR : Rt Y X (some .int) (PQi Y Q)) {v1 : Int} {v2 : Int} {k4 : Int → Int → Mem → Prop} (hk4 : ∀ (v1 : Int) (v2 : Int)  (M : Mem), k4 v1 v2 M → G Y X 3 4 [(0, vR Y 199), (1, vI v1), (2, vI v2)] ([]) M) {M : Mem}  (h : m_X12_crowd_J61 k4 Q v1 v2 M) : G Y X 3 61 [(0, vR Y 199), (1, vI v1), (2, vI v2)] ([]) M := by
  unfold m_X12_crowd_J61 at h
  refine g_iinc (q := 2) (v := v2 + 1) (lv' := [(2, vI (v2 + 1)), (0, vR Y 199), (1, vI v1)]) C dX12_crowd_61 rfl rfl (by decide) rfl ?_
  refine g_goto (tgt := 4) C dX12_crowd_64 (by decide) ?_
  refine G.sub [1, 2, 0] rfl ?_
  exact hk4 _ _ _ h
set_option maxRecDepth 20000 in
theorem w_X12_crowd_J38 {Y : YT} {X : CX} (C : Cx Y X cX12_crowd 3 RX12 7) {Q : Int → Mem → Prop} (hR : Rt Y X (some .int) (PQi Y Q)) {v1 : Int} {v2 : Int} {k4 : Int → Int → Mem → Prop} (hk4 : ∀ (v1 : Int) (v2 : Int)  (M : Mem), k4 v1 v2 M → G Y X 3 4 [(0, vR Y 199), (1, vI v1), (2, vI v2)] ([]) M) {M : Mem}  (h : m_X12_crowd_J38 k4 Q v1 v2 M) : G Y X 3 38 [(0, vR Y 199), (1, vI v1), (2, vI v2)] ([]) M := by
  unfold m_X12_crowd_J38 at h
  refine g_aload_n (q := 0) C dX12_crowd_38 rfl rfl ?_
  refine g_iconst C dX12_crowd_39 rfl ?_
  refine g_iconst C dX12_crowd_40 rfl ?_
  refine g_cVv (As := [vI 1, vI 0]) C clX12_411 clvX12_copies dX12_crowd_41 kd_199 rfl (Nat.le_of_ble_eq_true rfl) rfl (by decide) (t_X12_copies (Cx.ok C) h) (fun M1 h => ?_)
  refine g_aload_n (q := 0) C dX12_crowd_44 rfl rfl ?_
  refine g_getS (v := 229) C fX12_162 dX12_crowd_45 kd_199 rfl ?_
  refine g_iconst C dX12_crowd_48 rfl ?_
  refine g_iload_n (q := 2) C dX12_crowd_49 rfl rfl ?_
  obtain ⟨M2, e_M2⟩ : ∃ z : Mem, z = up M1 229 1 v2 := ⟨_, rfl⟩
  have h := h M2 e_M2
  refine g_iast C dX12_crowd_50 kd_229 ln_229 (by decide) e_M2 ?_
  refine g_aload_n (q := 0) C dX12_crowd_51 rfl rfl ?_
  refine g_iconst C dX12_crowd_52 rfl ?_
  refine g_cVi (As := [vI 1]) C clX12_459 clvX12_isAgreed dX12_crowd_53 kd_199 rfl (Nat.le_of_ble_eq_true rfl) rfl (by decide) (t_X12_isAgreed (Cx.ok C) h) (fun r4 M3 h => ?_)
  obtain ⟨g5, h⟩ := h
  obtain ⟨ht, hf⟩ := h
  refine g_if_eq (tgt := 61) C dX12_crowd_56 (by decide) g5 (fun c => ?_) (fun c => ?_)
  · have h := ht c
    refine G.sub [0, 1, 2] rfl ?_
    exact w_X12_crowd_J61 C hR (hk4)  h
  · have h := hf c
    refine g_iload_n (q := 2) C dX12_crowd_59 rfl rfl ?_
    refine g_istore_n (lv' := [(1, vI v2), (0, vR Y 199), (2, vI v2)]) C dX12_crowd_60 rfl (by decide) rfl ?_
    refine G.sub [1, 0, 2] rfl ?_
    exact w_X12_crowd_J61 C hR (hk4)  h
set_option maxRecDepth 20000 in
theorem w_X12_crowd_L4 {Y : YT} {X : CX} (C : Cx Y X cX12_crowd 3 RX12 7) {Q : Int → Mem → Prop} (hR : Rt Y X (some .int) (PQi Y Q))   : ∀ (f : Nat) (v1 : Int) (v2 : Int) (M : Mem), m_X12_crowd_L4  Q f v1 v2 M → G Y X 3 4 [(0, vR Y 199), (1, vI v1), (2, vI v2)] ([]) M := by
  intro f
  induction f with
  | zero =>
    intro v1 v2 M h
    exact (show False from h).elim
  | succ f ih =>
    intro v1 v2 M h
    unfold m_X12_crowd_L4 at h
    refine g_iload_n (q := 2) C dX12_crowd_4 rfl rfl ?_
    refine g_iconst C dX12_crowd_5 rfl ?_
    refine g_aload_n (q := 0) C dX12_crowd_6 rfl rfl ?_
    refine g_getS (v := 205) C fX12_66 dX12_crowd_7 kd_199 rfl ?_
    refine g_aload_n (q := 0) C dX12_crowd_10 rfl rfl ?_
    refine g_getI C fX12_51 (by decide) dX12_crowd_11 kd_199 ?_
    obtain ⟨g6, h⟩ := h
    refine g_iald C dX12_crowd_14 kd_205 ln_205 g6 ?_
    refine g_ishl C dX12_crowd_15 ?_
    obtain ⟨g7, h⟩ := h
    obtain ⟨g8, h⟩ := h
    obtain ⟨ht, hf⟩ := h
    refine g_icmp_ge (tgt := 67) C dX12_crowd_16 (by decide) g7 g8 (fun c => ?_) (fun c => ?_)
    · have h := ht c
      refine g_iload_n (q := 1) C dX12_crowd_67 rfl rfl ?_
      exact g_reti C hR dX12_crowd_68 h
    · have h := hf c
      refine g_iload_n (q := 1) C dX12_crowd_19 rfl rfl ?_
      refine g_iconst C dX12_crowd_20 rfl ?_
      obtain ⟨g9, h⟩ := h
      obtain ⟨ht, hf⟩ := h
      refine g_icmp_eq (tgt := 38) C dX12_crowd_21 (by decide) g9 (by decide) (fun c => ?_) (fun c => ?_)
      · have h := ht c
        refine G.sub [0, 1, 2] rfl ?_
        exact w_X12_crowd_J38 C hR (ih)  h
      · have h := hf c
        refine g_iload_n (q := 2) C dX12_crowd_24 rfl rfl ?_
        refine g_cSi (As := [vI v2]) C clX12_465 clsX12_bits dX12_crowd_25 rfl (Nat.le_of_ble_eq_true rfl) rfl (by decide) (t_X12_bits (Cx.ok C) h) (fun r11 M10 h => ?_)
        refine g_iload_n (q := 1) C dX12_crowd_28 rfl rfl ?_
        refine g_cSi (As := [vI v1]) C clX12_465 clsX12_bits dX12_crowd_29 rfl (Nat.le_of_ble_eq_true rfl) rfl (by decide) (t_X12_bits (Cx.ok C) h) (fun r13 M12 h => ?_)
        obtain ⟨g14, h⟩ := h
        obtain ⟨g15, h⟩ := h
        obtain ⟨ht, hf⟩ := h
        refine g_icmp_lt (tgt := 38) C dX12_crowd_32 (by decide) g14 g15 (fun c => ?_) (fun c => ?_)
        · have h := ht c
          refine G.sub [0, 1, 2] rfl ?_
          exact w_X12_crowd_J38 C hR (ih)  h
        · have h := hf c
          refine g_goto (tgt := 61) C dX12_crowd_35 (by decide) ?_
          refine G.sub [0, 1, 2] rfl ?_
          exact w_X12_crowd_J61 C hR (ih)  h
set_option maxRecDepth 20000 in
theorem t_X12_crowd {l : Launch} {Y : YT} (hY : YOK Y) {M : Mem} {Q : Int → Mem → Prop} (h : m_X12_crowd  M Q) : Ctr l Y yX12_crowd cX12_crowd 3 (some .int) 7 [vR Y 199] M (PQi Y Q) := by
  unfold m_X12_crowd at h
  refine ctr_ofF hY (by decide +kernel) (Nat.le_of_ble_eq_true rfl) [(0, vR Y 199)] rfl (fun X hX C hR => ?_)
  refine g_iconst C dX12_crowd_0 rfl ?_
  refine g_istore_n (lv' := [(1, vI (-1)), (0, vR Y 199)]) C dX12_crowd_1 rfl (by decide) rfl ?_
  refine g_iconst C dX12_crowd_2 rfl ?_
  refine g_istore_n (lv' := [(2, vI 0), (1, vI (-1)), (0, vR Y 199)]) C dX12_crowd_3 rfl (by decide) rfl ?_
  obtain ⟨f0, h⟩ := h
  refine G.sub [2, 1, 0] rfl ?_
  exact w_X12_crowd_L4 C hR  f0 _ _ _ h
set_option maxRecDepth 20000 in
theorem w_X12_empty_J62 {Y : YT} {X : CX} (C : Cx Y X cX12_empty 5 RX12 6) {Q : Int → Mem → Prop} (hR : Rt Y X (some .int) (PQi Y Q)) {v2 : Int} {s0 : Int} {s1 : Int} {k9 : Int → Int → Mem → Prop} (hk9 : ∀ (v1 : Int) (v2 : Int)  (M : Mem), k9 v1 v2 M → G Y X 5 9 [(0, vR Y 199), (1, vI v1), (2, vI v2)] ([]) M) {M : Mem}  (h : m_X12_empty_J62 k9 Q v2 s0 s1 M) : G Y X 5 62 [(0, vR Y 199), (2, vI v2)] ((vI s1) :: (vI s0) :: []) M := by
  unfold m_X12_empty_J62 at h
  refine g_ior C dX12_empty_62 ?_
  refine g_istore_n (lv' := [(1, vI (zor s0 s1)), (0, vR Y 199), (2, vI v2)]) C dX12_empty_63 rfl (by decide) rfl ?_
  refine g_iinc (q := 2) (v := v2 + 1) (lv' := [(2, vI (v2 + 1)), (1, vI (zor s0 s1)), (0, vR Y 199)]) C dX12_empty_64 rfl rfl (by decide) rfl ?_
  refine g_goto (tgt := 9) C dX12_empty_67 (by decide) ?_
  refine G.sub [2, 1, 0] rfl ?_
  exact hk9 _ _ _ h
set_option maxRecDepth 20000 in
theorem w_X12_empty_L27 {Y : YT} {X : CX} (C : Cx Y X cX12_empty 5 RX12 6) {Q : Int → Mem → Prop} (hR : Rt Y X (some .int) (PQi Y Q)) {v1 : Int} {v2 : Int} {k9 : Int → Int → Mem → Prop} (hk9 : ∀ (v1 : Int) (v2 : Int)  (M : Mem), k9 v1 v2 M → G Y X 5 9 [(0, vR Y 199), (1, vI v1), (2, vI v2)] ([]) M) : ∀ (f : Nat) (v3 : Int) (v4 : Int) (M : Mem), m_X12_empty_L27 k9 Q v1 v2 f v3 v4 M → G Y X 5 27 [(0, vR Y 199), (1, vI v1), (2, vI v2), (3, vI v3), (4, vI v4)] ([]) M := by
  intro f
  induction f with
  | zero =>
    intro v3 v4 M h
    exact (show False from h).elim
  | succ f ih =>
    intro v3 v4 M h
    unfold m_X12_empty_L27 at h
    refine g_iload (q := 4) C dX12_empty_27 rfl ?_
    refine g_bipush (v := 8) C dX12_empty_29 (by decide +kernel) ?_
    obtain ⟨g1, h⟩ := h
    obtain ⟨ht, hf⟩ := h
    refine g_icmp_gt (tgt := 50) C dX12_empty_31 (by decide) g1 (by decide) (fun c => ?_) (fun c => ?_)
    · have h := ht c
      refine g_iload_n (q := 1) C dX12_empty_50 rfl rfl ?_
      refine g_iload_n (q := 3) C dX12_empty_51 rfl rfl ?_
      obtain ⟨g2, h⟩ := h
      obtain ⟨ht, hf⟩ := h
      refine g_if_ne (tgt := 61) C dX12_empty_52 (by decide) g2 (fun c => ?_) (fun c => ?_)
      · have h := hf c
        refine g_iconst C dX12_empty_61 rfl ?_
        refine G.sub [0, 2] rfl ?_
        exact w_X12_empty_J62 C hR (hk9)  h
      · have h := ht c
        refine g_iconst C dX12_empty_55 rfl ?_
        refine g_iload_n (q := 2) C dX12_empty_56 rfl rfl ?_
        refine g_ishl C dX12_empty_57 ?_
        refine g_goto (tgt := 62) C dX12_empty_58 (by decide) ?_
        refine G.sub [0, 2] rfl ?_
        exact w_X12_empty_J62 C hR (hk9)  h
    · have h := hf c
      refine g_iload_n (q := 3) C dX12_empty_34 rfl rfl ?_
      refine g_aload_n (q := 0) C dX12_empty_35 rfl rfl ?_
      refine g_iload (q := 4) C dX12_empty_36 rfl ?_
      refine g_iload_n (q := 2) C dX12_empty_38 rfl rfl ?_
      refine g_cVi (As := [vI v4, vI v2]) C clX12_430 clvX12_manyAt dX12_empty_39 kd_199 rfl (Nat.le_of_ble_eq_true rfl) rfl (by decide) (t_X12_manyAt (Cx.ok C) h) (fun r4 M3 h => ?_)
      refine g_iadd C dX12_empty_42 ?_
      refine g_istore_n (lv' := [(3, vI (v3 + r4)), (0, vR Y 199), (1, vI v1), (2, vI v2), (4, vI v4)]) C dX12_empty_43 rfl (by decide) rfl ?_
      refine g_iinc (q := 4) (v := v4 + 1) (lv' := [(4, vI (v4 + 1)), (3, vI (v3 + r4)), (0, vR Y 199), (1, vI v1), (2, vI v2)]) C dX12_empty_44 rfl rfl (by decide) rfl ?_
      refine g_goto (tgt := 27) C dX12_empty_47 (by decide) ?_
      refine G.sub [2, 3, 4, 1, 0] rfl ?_
      exact ih _ _ _ h
set_option maxRecDepth 20000 in
theorem w_X12_empty_L9 {Y : YT} {X : CX} (C : Cx Y X cX12_empty 5 RX12 6) {Q : Int → Mem → Prop} (hR : Rt Y X (some .int) (PQi Y Q))   : ∀ (f : Nat) (v1 : Int) (v2 : Int) (M : Mem), m_X12_empty_L9  Q f v1 v2 M → G Y X 5 9 [(0, vR Y 199), (1, vI v1), (2, vI v2)] ([]) M := by
  intro f
  induction f with
  | zero =>
    intro v1 v2 M h
    exact (show False from h).elim
  | succ f ih =>
    intro v1 v2 M h
    unfold m_X12_empty_L9 at h
    refine g_iload_n (q := 2) C dX12_empty_9 rfl rfl ?_
    refine g_aload_n (q := 0) C dX12_empty_10 rfl rfl ?_
    refine g_getS (v := 201) C fX12_54 dX12_empty_11 kd_199 rfl ?_
    refine g_aload_n (q := 0) C dX12_empty_14 rfl rfl ?_
    refine g_getI C fX12_51 (by decide) dX12_empty_15 kd_199 ?_
    obtain ⟨g5, h⟩ := h
    refine g_iald C dX12_empty_18 kd_201 ln_201 g5 ?_
    obtain ⟨g6, h⟩ := h
    obtain ⟨g7, h⟩ := h
    obtain ⟨ht, hf⟩ := h
    refine g_icmp_ge (tgt := 70) C dX12_empty_19 (by decide) g6 g7 (fun c => ?_) (fun c => ?_)
    · have h := ht c
      refine g_iload_n (q := 1) C dX12_empty_70 rfl rfl ?_
      exact g_reti C hR dX12_empty_71 h
    · have h := hf c
      refine g_iconst C dX12_empty_22 rfl ?_
      refine g_istore_n (lv' := [(3, vI 0), (0, vR Y 199), (1, vI v1), (2, vI v2)]) C dX12_empty_23 rfl (by decide) rfl ?_
      refine g_iconst C dX12_empty_24 rfl ?_
      refine g_istore (lv' := [(4, vI 1), (3, vI 0), (0, vR Y 199), (1, vI v1), (2, vI v2)]) C dX12_empty_25 (by decide) rfl ?_
      obtain ⟨f0, h⟩ := h
      refine G.sub [2, 3, 4, 1, 0] rfl ?_
      exact w_X12_empty_L27 C hR (ih)  f0 _ _ _ h
set_option maxRecDepth 20000 in
theorem t_X12_empty {l : Launch} {Y : YT} (hY : YOK Y) {M : Mem} {Q : Int → Mem → Prop} (h : m_X12_empty  M Q) : Ctr l Y yX12_empty cX12_empty 5 (some .int) 6 [vR Y 199] M (PQi Y Q) := by
  unfold m_X12_empty at h
  refine ctr_ofF hY (by decide +kernel) (Nat.le_of_ble_eq_true rfl) [(0, vR Y 199)] rfl (fun X hX C hR => ?_)
  refine g_aload_n (q := 0) C dX12_empty_0 rfl rfl ?_
  refine g_iconst C dX12_empty_1 rfl ?_
  refine g_cVv (As := [vI 0]) C clX12_453 clvX12_runs dX12_empty_2 kd_199 rfl (Nat.le_of_ble_eq_true rfl) rfl (by decide) (t_X12_runs (Cx.ok C) h) (fun M8 h => ?_)
  refine g_iconst C dX12_empty_5 rfl ?_
  refine g_istore_n (lv' := [(1, vI 0), (0, vR Y 199)]) C dX12_empty_6 rfl (by decide) rfl ?_
  refine g_iconst C dX12_empty_7 rfl ?_
  refine g_istore_n (lv' := [(2, vI 0), (1, vI 0), (0, vR Y 199)]) C dX12_empty_8 rfl (by decide) rfl ?_
  obtain ⟨f0, h⟩ := h
  refine G.sub [2, 1, 0] rfl ?_
  exact w_X12_empty_L9 C hR  f0 _ _ _ h
set_option maxRecDepth 20000 in
theorem w_X12_isAhead_J28 {Y : YT} {X : CX} (C : Cx Y X cX12_isAhead 4 RX12 2) {Q : Int → Mem → Prop} (hR : Rt Y X (some .boolean) (PQi Y Q)) {s0 : Int}  {M : Mem}  (h : m_X12_isAhead_J28  Q s0 M) : G Y X 4 28 [] ((vI s0) :: []) M := by
  unfold m_X12_isAhead_J28 at h
  obtain ⟨g1, h⟩ := h
  exact g_retz C hR dX12_isAhead_28 g1 h
set_option maxRecDepth 20000 in
theorem w_X12_isAhead_J27 {Y : YT} {X : CX} (C : Cx Y X cX12_isAhead 4 RX12 2) {Q : Int → Mem → Prop} (hR : Rt Y X (some .boolean) (PQi Y Q))   {M : Mem}  (h : m_X12_isAhead_J27  Q  M) : G Y X 4 27 [] ([]) M := by
  unfold m_X12_isAhead_J27 at h
  refine g_iconst C dX12_isAhead_27 rfl ?_
  refine G.sub [] rfl ?_
  exact w_X12_isAhead_J28 C hR  h
set_option maxRecDepth 20000 in
theorem t_X12_isAhead {l : Launch} {Y : YT} (hY : YOK Y) {a0 : Int} {a1 : Int} {a2 : Int} {M : Mem} {Q : Int → Mem → Prop} (h : m_X12_isAhead a0 a1 a2 M Q) : Ctr l Y yX12_isAhead cX12_isAhead 4 (some .boolean) 2 [vR Y 199, vI a0, vI a1, vI a2] M (PQi Y Q) := by
  unfold m_X12_isAhead at h
  refine ctr_ofF hY (by decide +kernel) (Nat.le_of_ble_eq_true rfl) [(0, vR Y 199), (1, vI a0), (2, vI a1), (3, vI a2)] rfl (fun X hX C hR => ?_)
  refine g_iload_n (q := 1) C dX12_isAhead_0 rfl rfl ?_
  refine g_iload_n (q := 2) C dX12_isAhead_1 rfl rfl ?_
  refine g_iload_n (q := 3) C dX12_isAhead_2 rfl rfl ?_
  refine g_cSi (As := [vI a0, vI a1, vI a2]) C clX12_300 clsX12_is dX12_isAhead_3 rfl (Nat.le_of_ble_eq_true rfl) rfl (by decide) (t_X12_is (Cx.ok C) h) (fun r3 M2 h => ?_)
  obtain ⟨g4, h⟩ := h
  obtain ⟨ht, hf⟩ := h
  refine g_if_eq (tgt := 27) C dX12_isAhead_6 (by decide) g4 (fun c => ?_) (fun c => ?_)
  · have h := ht c
    refine G.sub [] rfl ?_
    exact w_X12_isAhead_J27 C hR  h
  · have h := hf c
    refine g_aload_n (q := 0) C dX12_isAhead_9 rfl rfl ?_
    refine g_getS (v := 227) C fX12_156 dX12_isAhead_10 kd_199 rfl ?_
    refine g_iconst C dX12_isAhead_13 rfl ?_
    refine g_iald C dX12_isAhead_14 kd_227 ln_227 (by decide) ?_
    refine g_sipush (v := 999) C dX12_isAhead_15 (by decide +kernel) ?_
    refine g_iload_n (q := 1) C dX12_isAhead_18 rfl rfl ?_
    refine g_isub C dX12_isAhead_19 ?_
    obtain ⟨g5, h⟩ := h
    obtain ⟨g6, h⟩ := h
    obtain ⟨ht, hf⟩ := h
    refine g_icmp_gt (tgt := 27) C dX12_isAhead_20 (by decide) g5 g6 (fun c => ?_) (fun c => ?_)
    · have h := ht c
      refine G.sub [] rfl ?_
      exact w_X12_isAhead_J27 C hR  h
    · have h := hf c
      refine g_iconst C dX12_isAhead_23 rfl ?_
      refine g_goto (tgt := 28) C dX12_isAhead_24 (by decide) ?_
      refine G.sub [] rfl ?_
      exact w_X12_isAhead_J28 C hR  h
set_option maxRecDepth 20000 in
theorem w_X12_later_L29 {Y : YT} {X : CX} (C : Cx Y X cX12_later 4 RX12 8) {Q : Int → Mem → Prop} (hR : Rt Y X (some .int) (PQi Y Q)) {v1 : Int} {v2 : Int}  : ∀ (f : Nat) (v3 : Int) (M : Mem), m_X12_later_L29  Q v1 v2 f v3 M → G Y X 4 29 [(0, vR Y 199), (1, vI v1), (2, vI v2), (3, vI v3)] ([]) M := by
  intro f
  induction f with
  | zero =>
    intro v3 M h
    exact (show False from h).elim
  | succ f ih =>
    intro v3 M h
    unfold m_X12_later_L29 at h
    refine g_iload_n (q := 3) C dX12_later_29 rfl rfl ?_
    refine g_iload_n (q := 2) C dX12_later_30 rfl rfl ?_
    obtain ⟨g1, h⟩ := h
    obtain ⟨g2, h⟩ := h
    obtain ⟨ht, hf⟩ := h
    refine g_icmp_ge (tgt := 46) C dX12_later_31 (by decide) g1 g2 (fun c => ?_) (fun c => ?_)
    · have h := ht c
      refine g_aload_n (q := 0) C dX12_later_46 rfl rfl ?_
      refine g_getS (v := 228) C fX12_159 dX12_later_47 kd_199 rfl ?_
      refine g_bipush (v := 6) C dX12_later_50 (by decide +kernel) ?_
      refine g_iload_n (q := 1) C dX12_later_52 rfl rfl ?_
      refine g_iadd C dX12_later_53 ?_
      obtain ⟨g3, h⟩ := h
      refine g_iald C dX12_later_54 kd_228 ln_228 g3 ?_
      exact g_reti C hR dX12_later_55 h
    · have h := hf c
      refine g_aload_n (q := 0) C dX12_later_34 rfl rfl ?_
      refine g_iconst C dX12_later_35 rfl ?_
      refine g_cVi (As := [vI 1]) C clX12_491 clvX12_passes dX12_later_36 kd_199 rfl (Nat.le_of_ble_eq_true rfl) rfl (by decide) (t_X12_passes (Cx.ok C) h) (fun r5 M4 h => ?_)
      refine g_pop C dX12_later_39 rfl ?_
      refine g_iinc (q := 3) (v := v3 + 1) (lv' := [(3, vI (v3 + 1)), (0, vR Y 199), (1, vI v1), (2, vI v2)]) C dX12_later_40 rfl rfl (by decide) rfl ?_
      refine g_goto (tgt := 29) C dX12_later_43 (by decide) ?_
      refine G.sub [1, 2, 3, 0] rfl ?_
      exact ih _ _ h
set_option maxRecDepth 20000 in
theorem w_X12_later_J19 {Y : YT} {X : CX} (C : Cx Y X cX12_later 4 RX12 8) {Q : Int → Mem → Prop} (hR : Rt Y X (some .int) (PQi Y Q))   {M : Mem}  (h : m_X12_later_J19  Q  M) : G Y X 4 19 [] ([]) M := by
  unfold m_X12_later_J19 at h
  refine g_iconst C dX12_later_19 rfl ?_
  exact g_reti C hR dX12_later_20 h
set_option maxRecDepth 20000 in
theorem t_X12_later {l : Launch} {Y : YT} (hY : YOK Y) {a0 : Int} {a1 : Int} {M : Mem} {Q : Int → Mem → Prop} (h : m_X12_later a0 a1 M Q) : Ctr l Y yX12_later cX12_later 4 (some .int) 8 [vR Y 199, vI a0, vI a1] M (PQi Y Q) := by
  unfold m_X12_later at h
  refine ctr_ofF hY (by decide +kernel) (Nat.le_of_ble_eq_true rfl) [(0, vR Y 199), (1, vI a0), (2, vI a1)] rfl (fun X hX C hR => ?_)
  refine g_aload_n (q := 0) C dX12_later_0 rfl rfl ?_
  refine g_iload_n (q := 1) C dX12_later_1 rfl rfl ?_
  refine g_cVi (As := [vI a0]) C clX12_473 clvX12_isPerson dX12_later_2 kd_199 rfl (Nat.le_of_ble_eq_true rfl) rfl (by decide) (t_X12_isPerson (Cx.ok C) h) (fun r7 M6 h => ?_)
  obtain ⟨g8, h⟩ := h
  obtain ⟨ht, hf⟩ := h
  refine g_if_eq (tgt := 19) C dX12_later_5 (by decide) g8 (fun c => ?_) (fun c => ?_)
  · have h := ht c
    refine G.sub [] rfl ?_
    exact w_X12_later_J19 C hR  h
  · have h := hf c
    refine g_aload_n (q := 0) C dX12_later_8 rfl rfl ?_
    refine g_iload_n (q := 2) C dX12_later_9 rfl rfl ?_
    refine g_iconst C dX12_later_10 rfl ?_
    refine g_bipush (v := 40) C dX12_later_11 (by decide +kernel) ?_
    refine g_cVi (As := [vI a1, vI 0, vI 40]) C clX12_488 clvX12_isAhead dX12_later_13 kd_199 rfl (Nat.le_of_ble_eq_true rfl) rfl (by decide) (t_X12_isAhead (Cx.ok C) h) (fun r10 M9 h => ?_)
    obtain ⟨g11, h⟩ := h
    obtain ⟨ht, hf⟩ := h
    refine g_if_ne (tgt := 21) C dX12_later_16 (by decide) g11 (fun c => ?_) (fun c => ?_)
    · have h := hf c
      refine g_aload_n (q := 0) C dX12_later_21 rfl rfl ?_
      refine g_iconst C dX12_later_22 rfl ?_
      refine g_iconst C dX12_later_23 rfl ?_
      refine g_cVv (As := [vI 1, vI 0]) C clX12_411 clvX12_copies dX12_later_24 kd_199 rfl (Nat.le_of_ble_eq_true rfl) rfl (by decide) (t_X12_copies (Cx.ok C) h) (fun M12 h => ?_)
      refine g_iconst C dX12_later_27 rfl ?_
      refine g_istore_n (lv' := [(3, vI 0), (0, vR Y 199), (1, vI a0), (2, vI a1)]) C dX12_later_28 rfl (by decide) rfl ?_
      obtain ⟨f0, h⟩ := h
      refine G.sub [1, 2, 3, 0] rfl ?_
      exact w_X12_later_L29 C hR  f0 _ _ h
    · have h := ht c
      refine G.sub [] rfl ?_
      exact w_X12_later_J19 C hR  h
set_option maxRecDepth 20000 in
theorem w_X12_areTogether_L2 {Y : YT} {X : CX} (C : Cx Y X cX12_areTogether 4 RX12 1) {Q : Int → Mem → Prop} (hR : Rt Y X (some .boolean) (PQi Y Q)) {v1 : Int} {v2 : Int}  : ∀ (f : Nat) (v3 : Int) (M : Mem), m_X12_areTogether_L2  Q v1 v2 f v3 M → G Y X 4 2 [(0, vR Y 199), (1, vI v1), (2, vI v2), (3, vI v3)] ([]) M := by
  intro f
  induction f with
  | zero =>
    intro v3 M h
    exact (show False from h).elim
  | succ f ih =>
    intro v3 M h
    unfold m_X12_areTogether_L2 at h
    refine g_iload_n (q := 3) C dX12_areTogether_2 rfl rfl ?_
    refine g_bipush (v := 8) C dX12_areTogether_3 (by decide +kernel) ?_
    obtain ⟨g1, h⟩ := h
    obtain ⟨ht, hf⟩ := h
    refine g_icmp_gt (tgt := 41) C dX12_areTogether_5 (by decide) g1 (by decide) (fun c => ?_) (fun c => ?_)
    · have h := ht c
      refine g_iconst C dX12_areTogether_41 rfl ?_
      exact g_retz C hR dX12_areTogether_42 (by decide) h
    · have h := hf c
      refine g_aload_n (q := 0) C dX12_areTogether_8 rfl rfl ?_
      refine g_getS (v := 236) C fX12_192 dX12_areTogether_9 kd_199 rfl ?_
      refine g_bipush (v := 6) C dX12_areTogether_12 (by decide +kernel) ?_
      refine g_iload_n (q := 3) C dX12_areTogether_14 rfl rfl ?_
      refine g_imul C dX12_areTogether_15 ?_
      refine g_iload_n (q := 1) C dX12_areTogether_16 rfl rfl ?_
      refine g_iadd C dX12_areTogether_17 ?_
      obtain ⟨g2, h⟩ := h
      refine g_iald C dX12_areTogether_18 kd_236 ln_236 g2 ?_
      refine g_aload_n (q := 0) C dX12_areTogether_19 rfl rfl ?_
      refine g_getS (v := 236) C fX12_192 dX12_areTogether_20 kd_199 rfl ?_
      refine g_bipush (v := 6) C dX12_areTogether_23 (by decide +kernel) ?_
      refine g_iload_n (q := 3) C dX12_areTogether_25 rfl rfl ?_
      refine g_imul C dX12_areTogether_26 ?_
      refine g_iload_n (q := 2) C dX12_areTogether_27 rfl rfl ?_
      refine g_iadd C dX12_areTogether_28 ?_
      obtain ⟨g3, h⟩ := h
      refine g_iald C dX12_areTogether_29 kd_236 ln_236 g3 ?_
      obtain ⟨g4, h⟩ := h
      obtain ⟨g5, h⟩ := h
      obtain ⟨ht, hf⟩ := h
      refine g_icmp_ne (tgt := 35) C dX12_areTogether_30 (by decide) g4 g5 (fun c => ?_) (fun c => ?_)
      · have h := hf c
        refine g_iinc (q := 3) (v := v3 + 1) (lv' := [(3, vI (v3 + 1)), (0, vR Y 199), (1, vI v1), (2, vI v2)]) C dX12_areTogether_35 rfl rfl (by decide) rfl ?_
        refine g_goto (tgt := 2) C dX12_areTogether_38 (by decide) ?_
        refine G.sub [1, 2, 3, 0] rfl ?_
        exact ih _ _ h
      · have h := ht c
        refine g_iconst C dX12_areTogether_33 rfl ?_
        exact g_retz C hR dX12_areTogether_34 (by decide) h
set_option maxRecDepth 20000 in
theorem t_X12_areTogether {l : Launch} {Y : YT} (hY : YOK Y) {a0 : Int} {a1 : Int} {M : Mem} {Q : Int → Mem → Prop} (h : m_X12_areTogether a0 a1 M Q) : Ctr l Y yX12_areTogether cX12_areTogether 4 (some .boolean) 1 [vR Y 199, vI a0, vI a1] M (PQi Y Q) := by
  unfold m_X12_areTogether at h
  refine ctr_ofF hY (by decide +kernel) (Nat.le_of_ble_eq_true rfl) [(0, vR Y 199), (1, vI a0), (2, vI a1)] rfl (fun X hX C hR => ?_)
  refine g_iconst C dX12_areTogether_0 rfl ?_
  refine g_istore_n (lv' := [(3, vI 1), (0, vR Y 199), (1, vI a0), (2, vI a1)]) C dX12_areTogether_1 rfl (by decide) rfl ?_
  obtain ⟨f0, h⟩ := h
  refine G.sub [1, 2, 3, 0] rfl ?_
  exact w_X12_areTogether_L2 C hR  f0 _ _ h
set_option maxRecDepth 20000 in
theorem w_X12_meet_L31 {Y : YT} {X : CX} (C : Cx Y X cX12_meet 4 RX12 8) {Q : Int → Mem → Prop} (hR : Rt Y X (some .int) (PQi Y Q)) {v1 : Int} {v2 : Int}  : ∀ (f : Nat) (v3 : Int) (M : Mem), m_X12_meet_L31  Q v1 v2 f v3 M → G Y X 4 31 [(0, vR Y 199), (1, vI v1), (2, vI v2), (3, vI v3)] ([]) M := by
  intro f
  induction f with
  | zero =>
    intro v3 M h
    exact (show False from h).elim
  | succ f ih =>
    intro v3 M h
    unfold m_X12_meet_L31 at h
    refine g_aload_n (q := 0) C dX12_meet_31 rfl rfl ?_
    refine g_iload_n (q := 3) C dX12_meet_32 rfl rfl ?_
    refine g_iconst C dX12_meet_33 rfl ?_
    refine g_bipush (v := 40) C dX12_meet_34 (by decide +kernel) ?_
    refine g_cVi (As := [vI v3, vI 1, vI 40]) C clX12_488 clvX12_isAhead dX12_meet_36 kd_199 rfl (Nat.le_of_ble_eq_true rfl) rfl (by decide) (t_X12_isAhead (Cx.ok C) h) (fun r2 M1 h => ?_)
    obtain ⟨g3, h⟩ := h
    obtain ⟨ht, hf⟩ := h
    refine g_if_eq (tgt := 65) C dX12_meet_39 (by decide) g3 (fun c => ?_) (fun c => ?_)
    · have h := ht c
      refine g_iconst C dX12_meet_65 rfl ?_
      exact g_reti C hR dX12_meet_66 h
    · have h := hf c
      refine g_aload_n (q := 0) C dX12_meet_42 rfl rfl ?_
      refine g_iconst C dX12_meet_43 rfl ?_
      refine g_cVi (As := [vI 1]) C clX12_491 clvX12_passes dX12_meet_44 kd_199 rfl (Nat.le_of_ble_eq_true rfl) rfl (by decide) (t_X12_passes (Cx.ok C) h) (fun r5 M4 h => ?_)
      refine g_pop C dX12_meet_47 rfl ?_
      refine g_aload_n (q := 0) C dX12_meet_48 rfl rfl ?_
      refine g_iload_n (q := 1) C dX12_meet_49 rfl rfl ?_
      refine g_iload_n (q := 2) C dX12_meet_50 rfl rfl ?_
      refine g_cVi (As := [vI v1, vI v2]) C clX12_494 clvX12_areTogether dX12_meet_51 kd_199 rfl (Nat.le_of_ble_eq_true rfl) rfl (by decide) (t_X12_areTogether (Cx.ok C) h) (fun r7 M6 h => ?_)
      obtain ⟨g8, h⟩ := h
      obtain ⟨ht, hf⟩ := h
      refine g_if_eq (tgt := 59) C dX12_meet_54 (by decide) g8 (fun c => ?_) (fun c => ?_)
      · have h := ht c
        refine g_iinc (q := 3) (v := v3 + 1) (lv' := [(3, vI (v3 + 1)), (0, vR Y 199), (1, vI v1), (2, vI v2)]) C dX12_meet_59 rfl rfl (by decide) rfl ?_
        refine g_goto (tgt := 31) C dX12_meet_62 (by decide) ?_
        refine G.sub [1, 2, 3, 0] rfl ?_
        exact ih _ _ h
      · have h := hf c
        refine g_iload_n (q := 3) C dX12_meet_57 rfl rfl ?_
        exact g_reti C hR dX12_meet_58 h
set_option maxRecDepth 20000 in
theorem w_X12_meet_J21 {Y : YT} {X : CX} (C : Cx Y X cX12_meet 4 RX12 8) {Q : Int → Mem → Prop} (hR : Rt Y X (some .int) (PQi Y Q))   {M : Mem}  (h : m_X12_meet_J21  Q  M) : G Y X 4 21 [] ([]) M := by
  unfold m_X12_meet_J21 at h
  refine g_iconst C dX12_meet_21 rfl ?_
  exact g_reti C hR dX12_meet_22 h
set_option maxRecDepth 20000 in
theorem t_X12_meet {l : Launch} {Y : YT} (hY : YOK Y) {a0 : Int} {a1 : Int} {M : Mem} {Q : Int → Mem → Prop} (h : m_X12_meet a0 a1 M Q) : Ctr l Y yX12_meet cX12_meet 4 (some .int) 8 [vR Y 199, vI a0, vI a1] M (PQi Y Q) := by
  unfold m_X12_meet at h
  refine ctr_ofF hY (by decide +kernel) (Nat.le_of_ble_eq_true rfl) [(0, vR Y 199), (1, vI a0), (2, vI a1)] rfl (fun X hX C hR => ?_)
  refine g_aload_n (q := 0) C dX12_meet_0 rfl rfl ?_
  refine g_iload_n (q := 1) C dX12_meet_1 rfl rfl ?_
  refine g_cVi (As := [vI a0]) C clX12_473 clvX12_isPerson dX12_meet_2 kd_199 rfl (Nat.le_of_ble_eq_true rfl) rfl (by decide) (t_X12_isPerson (Cx.ok C) h) (fun r10 M9 h => ?_)
  obtain ⟨g11, h⟩ := h
  obtain ⟨ht, hf⟩ := h
  refine g_if_eq (tgt := 21) C dX12_meet_5 (by decide) g11 (fun c => ?_) (fun c => ?_)
  · have h := ht c
    refine G.sub [] rfl ?_
    exact w_X12_meet_J21 C hR  h
  · have h := hf c
    refine g_aload_n (q := 0) C dX12_meet_8 rfl rfl ?_
    refine g_iload_n (q := 2) C dX12_meet_9 rfl rfl ?_
    refine g_cVi (As := [vI a1]) C clX12_473 clvX12_isPerson dX12_meet_10 kd_199 rfl (Nat.le_of_ble_eq_true rfl) rfl (by decide) (t_X12_isPerson (Cx.ok C) h) (fun r13 M12 h => ?_)
    obtain ⟨g14, h⟩ := h
    obtain ⟨ht, hf⟩ := h
    refine g_if_eq (tgt := 21) C dX12_meet_13 (by decide) g14 (fun c => ?_) (fun c => ?_)
    · have h := ht c
      refine G.sub [] rfl ?_
      exact w_X12_meet_J21 C hR  h
    · have h := hf c
      refine g_iload_n (q := 1) C dX12_meet_16 rfl rfl ?_
      refine g_iload_n (q := 2) C dX12_meet_17 rfl rfl ?_
      obtain ⟨g15, h⟩ := h
      obtain ⟨g16, h⟩ := h
      obtain ⟨ht, hf⟩ := h
      refine g_icmp_ne (tgt := 23) C dX12_meet_18 (by decide) g15 g16 (fun c => ?_) (fun c => ?_)
      · have h := hf c
        refine g_aload_n (q := 0) C dX12_meet_23 rfl rfl ?_
        refine g_iconst C dX12_meet_24 rfl ?_
        refine g_iconst C dX12_meet_25 rfl ?_
        refine g_cVv (As := [vI 1, vI 0]) C clX12_411 clvX12_copies dX12_meet_26 kd_199 rfl (Nat.le_of_ble_eq_true rfl) rfl (by decide) (t_X12_copies (Cx.ok C) h) (fun M17 h => ?_)
        refine g_iconst C dX12_meet_29 rfl ?_
        refine g_istore_n (lv' := [(3, vI 1), (0, vR Y 199), (1, vI a0), (2, vI a1)]) C dX12_meet_30 rfl (by decide) rfl ?_
        obtain ⟨f0, h⟩ := h
        refine G.sub [1, 2, 3, 0] rfl ?_
        exact w_X12_meet_L31 C hR  f0 _ _ h
      · have h := ht c
        refine G.sub [] rfl ?_
        exact w_X12_meet_J21 C hR  h
set_option maxRecDepth 20000 in
theorem w_X12_isAsNow_L2 {Y : YT} {X : CX} (C : Cx Y X cX12_isAsNow 2 RX12 1) {Q : Int → Mem → Prop} (hR : Rt Y X (some .boolean) (PQi Y Q))   : ∀ (f : Nat) (v1 : Int) (M : Mem), m_X12_isAsNow_L2  Q f v1 M → G Y X 2 2 [(0, vR Y 199), (1, vI v1)] ([]) M := by
  intro f
  induction f with
  | zero =>
    intro v1 M h
    exact (show False from h).elim
  | succ f ih =>
    intro v1 M h
    unfold m_X12_isAsNow_L2 at h
    refine g_iload_n (q := 1) C dX12_isAsNow_2 rfl rfl ?_
    refine g_aload_n (q := 0) C dX12_isAsNow_3 rfl rfl ?_
    refine g_getS (v := 205) C fX12_66 dX12_isAsNow_4 kd_199 rfl ?_
    refine g_aload_n (q := 0) C dX12_isAsNow_7 rfl rfl ?_
    refine g_getI C fX12_51 (by decide) dX12_isAsNow_8 kd_199 ?_
    obtain ⟨g1, h⟩ := h
    refine g_iald C dX12_isAsNow_11 kd_205 ln_205 g1 ?_
    obtain ⟨g2, h⟩ := h
    obtain ⟨g3, h⟩ := h
    obtain ⟨ht, hf⟩ := h
    refine g_icmp_ge (tgt := 41) C dX12_isAsNow_12 (by decide) g2 g3 (fun c => ?_) (fun c => ?_)
    · have h := ht c
      refine g_iconst C dX12_isAsNow_41 rfl ?_
      exact g_retz C hR dX12_isAsNow_42 (by decide) h
    · have h := hf c
      refine g_aload_n (q := 0) C dX12_isAsNow_15 rfl rfl ?_
      refine g_getS (v := 228) C fX12_159 dX12_isAsNow_16 kd_199 rfl ?_
      refine g_bipush (v := 6) C dX12_isAsNow_19 (by decide +kernel) ?_
      refine g_iload_n (q := 1) C dX12_isAsNow_21 rfl rfl ?_
      refine g_iadd C dX12_isAsNow_22 ?_
      obtain ⟨g4, h⟩ := h
      refine g_iald C dX12_isAsNow_23 kd_228 ln_228 g4 ?_
      refine g_aload_n (q := 0) C dX12_isAsNow_24 rfl rfl ?_
      refine g_getS (v := 228) C fX12_159 dX12_isAsNow_25 kd_199 rfl ?_
      refine g_iload_n (q := 1) C dX12_isAsNow_28 rfl rfl ?_
      obtain ⟨g5, h⟩ := h
      refine g_iald C dX12_isAsNow_29 kd_228 ln_228 g5 ?_
      obtain ⟨g6, h⟩ := h
      obtain ⟨g7, h⟩ := h
      obtain ⟨ht, hf⟩ := h
      refine g_icmp_eq (tgt := 35) C dX12_isAsNow_30 (by decide) g6 g7 (fun c => ?_) (fun c => ?_)
      · have h := ht c
        refine g_iinc (q := 1) (v := v1 + 1) (lv' := [(1, vI (v1 + 1)), (0, vR Y 199)]) C dX12_isAsNow_35 rfl rfl (by decide) rfl ?_
        refine g_goto (tgt := 2) C dX12_isAsNow_38 (by decide) ?_
        refine G.sub [1, 0] rfl ?_
        exact ih _ _ h
      · have h := hf c
        refine g_iconst C dX12_isAsNow_33 rfl ?_
        exact g_retz C hR dX12_isAsNow_34 (by decide) h
set_option maxRecDepth 20000 in
theorem t_X12_isAsNow {l : Launch} {Y : YT} (hY : YOK Y) {M : Mem} {Q : Int → Mem → Prop} (h : m_X12_isAsNow  M Q) : Ctr l Y yX12_isAsNow cX12_isAsNow 2 (some .boolean) 1 [vR Y 199] M (PQi Y Q) := by
  unfold m_X12_isAsNow at h
  refine ctr_ofF hY (by decide +kernel) (Nat.le_of_ble_eq_true rfl) [(0, vR Y 199)] rfl (fun X hX C hR => ?_)
  refine g_iconst C dX12_isAsNow_0 rfl ?_
  refine g_istore_n (lv' := [(1, vI 0), (0, vR Y 199)]) C dX12_isAsNow_1 rfl (by decide) rfl ?_
  obtain ⟨f0, h⟩ := h
  refine G.sub [1, 0] rfl ?_
  exact w_X12_isAsNow_L2 C hR  f0 _ _ h
set_option maxRecDepth 20000 in
theorem w_X12_round_L8 {Y : YT} {X : CX} (C : Cx Y X cX12_round 2 RX12 8) {Q : Int → Mem → Prop} (hR : Rt Y X (some .int) (PQi Y Q))   : ∀ (f : Nat) (v1 : Int) (M : Mem), m_X12_round_L8  Q f v1 M → G Y X 2 8 [(0, vR Y 199), (1, vI v1)] ([]) M := by
  intro f
  induction f with
  | zero =>
    intro v1 M h
    exact (show False from h).elim
  | succ f ih =>
    intro v1 M h
    unfold m_X12_round_L8 at h
    refine g_aload_n (q := 0) C dX12_round_8 rfl rfl ?_
    refine g_iload_n (q := 1) C dX12_round_9 rfl rfl ?_
    refine g_iconst C dX12_round_10 rfl ?_
    refine g_bipush (v := 40) C dX12_round_11 (by decide +kernel) ?_
    refine g_cVi (As := [vI v1, vI 1, vI 40]) C clX12_488 clvX12_isAhead dX12_round_13 kd_199 rfl (Nat.le_of_ble_eq_true rfl) rfl (by decide) (t_X12_isAhead (Cx.ok C) h) (fun r2 M1 h => ?_)
    obtain ⟨g3, h⟩ := h
    obtain ⟨ht, hf⟩ := h
    refine g_if_eq (tgt := 40) C dX12_round_16 (by decide) g3 (fun c => ?_) (fun c => ?_)
    · have h := ht c
      refine g_iconst C dX12_round_40 rfl ?_
      exact g_reti C hR dX12_round_41 h
    · have h := hf c
      refine g_aload_n (q := 0) C dX12_round_19 rfl rfl ?_
      refine g_iconst C dX12_round_20 rfl ?_
      refine g_cVi (As := [vI 1]) C clX12_491 clvX12_passes dX12_round_21 kd_199 rfl (Nat.le_of_ble_eq_true rfl) rfl (by decide) (t_X12_passes (Cx.ok C) h) (fun r5 M4 h => ?_)
      refine g_pop C dX12_round_24 rfl ?_
      refine g_aload_n (q := 0) C dX12_round_25 rfl rfl ?_
      refine g_cVi (As := []) C clX12_497 clvX12_isAsNow dX12_round_26 kd_199 rfl (Nat.le_of_ble_eq_true rfl) rfl (by decide) (t_X12_isAsNow (Cx.ok C) h) (fun r7 M6 h => ?_)
      obtain ⟨g8, h⟩ := h
      obtain ⟨ht, hf⟩ := h
      refine g_if_eq (tgt := 34) C dX12_round_29 (by decide) g8 (fun c => ?_) (fun c => ?_)
      · have h := ht c
        refine g_iinc (q := 1) (v := v1 + 1) (lv' := [(1, vI (v1 + 1)), (0, vR Y 199)]) C dX12_round_34 rfl rfl (by decide) rfl ?_
        refine g_goto (tgt := 8) C dX12_round_37 (by decide) ?_
        refine G.sub [1, 0] rfl ?_
        exact ih _ _ h
      · have h := hf c
        refine g_iload_n (q := 1) C dX12_round_32 rfl rfl ?_
        exact g_reti C hR dX12_round_33 h
set_option maxRecDepth 20000 in
theorem t_X12_round {l : Launch} {Y : YT} (hY : YOK Y) {M : Mem} {Q : Int → Mem → Prop} (h : m_X12_round  M Q) : Ctr l Y yX12_round cX12_round 2 (some .int) 8 [vR Y 199] M (PQi Y Q) := by
  unfold m_X12_round at h
  refine ctr_ofF hY (by decide +kernel) (Nat.le_of_ble_eq_true rfl) [(0, vR Y 199)] rfl (fun X hX C hR => ?_)
  refine g_aload_n (q := 0) C dX12_round_0 rfl rfl ?_
  refine g_iconst C dX12_round_1 rfl ?_
  refine g_iconst C dX12_round_2 rfl ?_
  refine g_cVv (As := [vI 1, vI 0]) C clX12_411 clvX12_copies dX12_round_3 kd_199 rfl (Nat.le_of_ble_eq_true rfl) rfl (by decide) (t_X12_copies (Cx.ok C) h) (fun M9 h => ?_)
  refine g_iconst C dX12_round_6 rfl ?_
  refine g_istore_n (lv' := [(1, vI 1), (0, vR Y 199)]) C dX12_round_7 rfl (by decide) rfl ?_
  obtain ⟨f0, h⟩ := h
  refine G.sub [1, 0] rfl ?_
  exact w_X12_round_L8 C hR  f0 _ _ h
set_option maxRecDepth 20000 in
theorem w_X12_see_L104 {Y : YT} {X : CX} (C : Cx Y X cX12_see 4 RX12 2) {Q : Int → Mem → Prop} (hR : Rt Y X (some .int) (PQi Y Q))   : ∀ (f : Nat) (v3 : Int) (M : Mem), m_X12_see_L104  Q f v3 M → G Y X 4 104 [(0, vR Y 199), (3, vI v3)] ([]) M := by
  intro f
  induction f with
  | zero =>
    intro v3 M h
    exact (show False from h).elim
  | succ f ih =>
    intro v3 M h
    unfold m_X12_see_L104 at h
    refine g_iload_n (q := 1) C dX12_see_104 rfl rfl ?_
    refine g_aload_n (q := 0) C dX12_see_105 rfl rfl ?_
    refine g_getI C fX12_195 (by decide) dX12_see_106 kd_199 ?_
    obtain ⟨g1, h⟩ := h
    obtain ⟨g2, h⟩ := h
    obtain ⟨ht, hf⟩ := h
    refine g_icmp_ge (tgt := 164) C dX12_see_109 (by decide) g1 g2 (fun c => ?_) (fun c => ?_)
    · have h := ht c
      refine g_aload_n (q := 0) C dX12_see_164 rfl rfl ?_
      refine g_getI C fX12_195 (by decide) dX12_see_165 kd_199 ?_
      exact g_reti C hR dX12_see_168 h
    · have h := hf c
      refine g_aload_n (q := 0) C dX12_see_112 rfl rfl ?_
      refine g_getS (v := 237) C fX12_198 dX12_see_113 kd_199 rfl ?_
      refine g_iload_n (q := 1) C dX12_see_116 rfl rfl ?_
      refine g_aload_n (q := 0) C dX12_see_117 rfl rfl ?_
      refine g_getS (v := 200) C fX12_7 dX12_see_118 kd_199 rfl ?_
      refine g_iconst C dX12_see_121 rfl ?_
      refine g_iload_n (q := 1) C dX12_see_122 rfl rfl ?_
      refine g_imul C dX12_see_123 ?_
      obtain ⟨g3, h⟩ := h
      refine g_iald C dX12_see_124 kd_200 ln_200 g3 ?_
      obtain ⟨g4, h⟩ := h
      obtain ⟨M5, e_M5⟩ : ∃ z : Mem, z = up M 237 v3 (M 200 (3 * v3)) := ⟨_, rfl⟩
      have h := h M5 e_M5
      refine g_iast C dX12_see_125 kd_237 ln_237 g4 e_M5 ?_
      refine g_aload_n (q := 0) C dX12_see_126 rfl rfl ?_
      refine g_getS (v := 238) C fX12_201 dX12_see_127 kd_199 rfl ?_
      refine g_iload_n (q := 1) C dX12_see_130 rfl rfl ?_
      refine g_aload_n (q := 0) C dX12_see_131 rfl rfl ?_
      refine g_getS (v := 200) C fX12_7 dX12_see_132 kd_199 rfl ?_
      refine g_iconst C dX12_see_135 rfl ?_
      refine g_iload_n (q := 1) C dX12_see_136 rfl rfl ?_
      refine g_imul C dX12_see_137 ?_
      refine g_iconst C dX12_see_138 rfl ?_
      refine g_iadd C dX12_see_139 ?_
      obtain ⟨g6, h⟩ := h
      refine g_iald C dX12_see_140 kd_200 ln_200 g6 ?_
      obtain ⟨g7, h⟩ := h
      obtain ⟨M8, e_M8⟩ : ∃ z : Mem, z = up M5 238 v3 (M5 200 ((3 * v3) + 1)) := ⟨_, rfl⟩
      have h := h M8 e_M8
      refine g_iast C dX12_see_141 kd_238 ln_238 g7 e_M8 ?_
      refine g_aload_n (q := 0) C dX12_see_142 rfl rfl ?_
      refine g_getS (v := 239) C fX12_204 dX12_see_143 kd_199 rfl ?_
      refine g_iload_n (q := 1) C dX12_see_146 rfl rfl ?_
      refine g_aload_n (q := 0) C dX12_see_147 rfl rfl ?_
      refine g_getS (v := 200) C fX12_7 dX12_see_148 kd_199 rfl ?_
      refine g_iconst C dX12_see_151 rfl ?_
      refine g_iload_n (q := 1) C dX12_see_152 rfl rfl ?_
      refine g_imul C dX12_see_153 ?_
      refine g_iconst C dX12_see_154 rfl ?_
      refine g_iadd C dX12_see_155 ?_
      obtain ⟨g9, h⟩ := h
      refine g_iald C dX12_see_156 kd_200 ln_200 g9 ?_
      obtain ⟨g10, h⟩ := h
      obtain ⟨M11, e_M11⟩ : ∃ z : Mem, z = up M8 239 v3 (M8 200 ((3 * v3) + 2)) := ⟨_, rfl⟩
      have h := h M11 e_M11
      refine g_iast C dX12_see_157 kd_239 ln_239 g10 e_M11 ?_
      refine g_iinc (q := 1) (v := v3 + 1) (lv' := [(3, vI (v3 + 1)), (0, vR Y 199)]) C dX12_see_158 rfl rfl (by decide) rfl ?_
      refine g_goto (tgt := 104) C dX12_see_161 (by decide) ?_
      refine G.sub [1, 0] rfl ?_
      exact ih _ _ h
set_option maxRecDepth 20000 in
theorem w_X12_see_J85 {Y : YT} {X : CX} (C : Cx Y X cX12_see 4 RX12 2) {Q : Int → Mem → Prop} (hR : Rt Y X (some .int) (PQi Y Q)) {v1 : Int} {v2 : Int}  {M : Mem}  (h : m_X12_see_J85  Q v1 v2 M) : G Y X 4 85 [(0, vR Y 199), (1, vI v1), (2, vI v2)] ([]) M := by
  unfold m_X12_see_J85 at h
  refine g_iload_n (q := 2) C dX12_see_85 rfl rfl ?_
  obtain ⟨g12, h⟩ := h
  obtain ⟨ht, hf⟩ := h
  refine g_if_ne (tgt := 95) C dX12_see_86 (by decide) g12 (fun c => ?_) (fun c => ?_)
  · have h := hf c
    refine g_aload_n (q := 0) C dX12_see_95 rfl rfl ?_
    refine g_iload_n (q := 1) C dX12_see_96 rfl rfl ?_
    refine g_iconst C dX12_see_97 rfl ?_
    obtain ⟨g13, h⟩ := h
    refine g_idiv C dX12_see_98 g13 (by decide) (by decide) ?_
    obtain ⟨M14, e_M14⟩ : ∃ z : Mem, z = up M 199 60 (v1.tdiv 3) := ⟨_, rfl⟩
    have h := h M14 e_M14
    refine g_putI C fX12_195 pX12_195 dX12_see_99 kd_199 e_M14 ?_
    refine g_iconst C dX12_see_102 rfl ?_
    refine g_istore_n (lv' := [(3, vI 0), (0, vR Y 199), (1, vI v1), (2, vI v2)]) C dX12_see_103 rfl (by decide) rfl ?_
    obtain ⟨f0, h⟩ := h
    refine G.sub [1, 0] rfl ?_
    exact w_X12_see_L104 C hR  f0 _ _ h
  · have h := ht c
    refine g_aload_n (q := 0) C dX12_see_89 rfl rfl ?_
    refine g_iconst C dX12_see_90 rfl ?_
    refine g_cVi (As := [vI 5]) C clX12_216 clvX12_refuses dX12_see_91 kd_199 rfl (Nat.le_of_ble_eq_true rfl) rfl (by decide) (t_X12_refuses (Cx.ok C) h) (fun r16 M15 h => ?_)
    exact g_reti C hR dX12_see_94 h
set_option maxRecDepth 20000 in
theorem w_X12_see_J78 {Y : YT} {X : CX} (C : Cx Y X cX12_see 4 RX12 2) {Q : Int → Mem → Prop} (hR : Rt Y X (some .int) (PQi Y Q)) {v1 : Int} {v3 : Int} {s0 : Int} {k34 : Int → Int → Mem → Prop} (hk34 : ∀ (v2 : Int) (v3 : Int)  (M : Mem), k34 v2 v3 M → G Y X 4 34 [(0, vR Y 199), (1, vI v1), (2, vI v2), (3, vI v3)] ([]) M) {M : Mem}  (h : m_X12_see_J78 k34 Q v1 v3 s0 M) : G Y X 4 78 [(0, vR Y 199), (1, vI v1), (3, vI v3)] ((vI s0) :: []) M := by
  unfold m_X12_see_J78 at h
  refine g_istore_n (lv' := [(2, vI s0), (0, vR Y 199), (1, vI v1), (3, vI v3)]) C dX12_see_78 rfl (by decide) rfl ?_
  refine g_iinc (q := 3) (v := v3 + 3) (lv' := [(3, vI (v3 + 3)), (2, vI s0), (0, vR Y 199), (1, vI v1)]) C dX12_see_79 rfl rfl (by decide) rfl ?_
  refine g_goto (tgt := 34) C dX12_see_82 (by decide) ?_
  refine G.sub [2, 3, 1, 0] rfl ?_
  exact hk34 _ _ _ h
set_option maxRecDepth 20000 in
theorem w_X12_see_J77 {Y : YT} {X : CX} (C : Cx Y X cX12_see 4 RX12 2) {Q : Int → Mem → Prop} (hR : Rt Y X (some .int) (PQi Y Q)) {v1 : Int} {v3 : Int} {k34 : Int → Int → Mem → Prop} (hk34 : ∀ (v2 : Int) (v3 : Int)  (M : Mem), k34 v2 v3 M → G Y X 4 34 [(0, vR Y 199), (1, vI v1), (2, vI v2), (3, vI v3)] ([]) M) {M : Mem}  (h : m_X12_see_J77 k34 Q v1 v3 M) : G Y X 4 77 [(0, vR Y 199), (1, vI v1), (3, vI v3)] ([]) M := by
  unfold m_X12_see_J77 at h
  refine g_iconst C dX12_see_77 rfl ?_
  refine G.sub [0, 1, 2] rfl ?_
  exact w_X12_see_J78 C hR (hk34)  h
set_option maxRecDepth 20000 in
theorem w_X12_see_L34 {Y : YT} {X : CX} (C : Cx Y X cX12_see 4 RX12 2) {Q : Int → Mem → Prop} (hR : Rt Y X (some .int) (PQi Y Q)) {v1 : Int}  : ∀ (f : Nat) (v2 : Int) (v3 : Int) (M : Mem), m_X12_see_L34  Q v1 f v2 v3 M → G Y X 4 34 [(0, vR Y 199), (1, vI v1), (2, vI v2), (3, vI v3)] ([]) M := by
  intro f
  induction f with
  | zero =>
    intro v2 v3 M h
    exact (show False from h).elim
  | succ f ih =>
    intro v2 v3 M h
    unfold m_X12_see_L34 at h
    refine g_iload_n (q := 3) C dX12_see_34 rfl rfl ?_
    refine g_iload_n (q := 1) C dX12_see_35 rfl rfl ?_
    obtain ⟨g17, h⟩ := h
    obtain ⟨g18, h⟩ := h
    obtain ⟨ht, hf⟩ := h
    refine g_icmp_ge (tgt := 85) C dX12_see_36 (by decide) g17 g18 (fun c => ?_) (fun c => ?_)
    · have h := ht c
      refine G.sub [0, 1, 2] rfl ?_
      exact w_X12_see_J85 C hR  h
    · have h := hf c
      refine g_iload_n (q := 2) C dX12_see_39 rfl rfl ?_
      obtain ⟨g19, h⟩ := h
      obtain ⟨ht, hf⟩ := h
      refine g_if_eq (tgt := 85) C dX12_see_40 (by decide) g19 (fun c => ?_) (fun c => ?_)
      · have h := ht c
        refine G.sub [0, 1, 2] rfl ?_
        exact w_X12_see_J85 C hR  h
      · have h := hf c
        refine g_aload_n (q := 0) C dX12_see_43 rfl rfl ?_
        refine g_getS (v := 200) C fX12_7 dX12_see_44 kd_199 rfl ?_
        refine g_iload_n (q := 3) C dX12_see_47 rfl rfl ?_
        obtain ⟨g20, h⟩ := h
        refine g_iald C dX12_see_48 kd_200 ln_200 g20 ?_
        refine g_iconst C dX12_see_49 rfl ?_
        refine g_bipush (v := 8) C dX12_see_50 (by decide +kernel) ?_
        refine g_cSi (As := [vI (M 200 v3), vI 1, vI 8]) C clX12_300 clsX12_is dX12_see_52 rfl (Nat.le_of_ble_eq_true rfl) rfl (by decide) (t_X12_is (Cx.ok C) h) (fun r22 M21 h => ?_)
        obtain ⟨g23, h⟩ := h
        obtain ⟨ht, hf⟩ := h
        refine g_if_eq (tgt := 77) C dX12_see_55 (by decide) g23 (fun c => ?_) (fun c => ?_)
        · have h := ht c
          refine G.sub [0, 1, 3] rfl ?_
          exact w_X12_see_J77 C hR (ih)  h
        · have h := hf c
          refine g_aload_n (q := 0) C dX12_see_58 rfl rfl ?_
          refine g_aload_n (q := 0) C dX12_see_59 rfl rfl ?_
          refine g_getS (v := 200) C fX12_7 dX12_see_60 kd_199 rfl ?_
          refine g_iload_n (q := 3) C dX12_see_63 rfl rfl ?_
          refine g_iconst C dX12_see_64 rfl ?_
          refine g_iadd C dX12_see_65 ?_
          obtain ⟨g24, h⟩ := h
          refine g_iald C dX12_see_66 kd_200 ln_200 g24 ?_
          refine g_cVi (As := [vI (M21 200 (v3 + 1))]) C clX12_470 clvX12_isPlace dX12_see_67 kd_199 rfl (Nat.le_of_ble_eq_true rfl) rfl (by decide) (t_X12_isPlace (Cx.ok C) h) (fun r26 M25 h => ?_)
          obtain ⟨g27, h⟩ := h
          obtain ⟨ht, hf⟩ := h
          refine g_if_eq (tgt := 77) C dX12_see_70 (by decide) g27 (fun c => ?_) (fun c => ?_)
          · have h := ht c
            refine G.sub [0, 1, 3] rfl ?_
            exact w_X12_see_J77 C hR (ih)  h
          · have h := hf c
            refine g_iconst C dX12_see_73 rfl ?_
            refine g_goto (tgt := 78) C dX12_see_74 (by decide) ?_
            refine G.sub [0, 1, 3] rfl ?_
            exact w_X12_see_J78 C hR (ih)  h
set_option maxRecDepth 20000 in
theorem w_X12_see_J31 {Y : YT} {X : CX} (C : Cx Y X cX12_see 4 RX12 2) {Q : Int → Mem → Prop} (hR : Rt Y X (some .int) (PQi Y Q)) {v1 : Int} {s0 : Int}  {M : Mem}  (h : m_X12_see_J31  Q v1 s0 M) : G Y X 4 31 [(0, vR Y 199), (1, vI v1)] ((vI s0) :: []) M := by
  unfold m_X12_see_J31 at h
  refine g_istore_n (lv' := [(2, vI s0), (0, vR Y 199), (1, vI v1)]) C dX12_see_31 rfl (by decide) rfl ?_
  refine g_iconst C dX12_see_32 rfl ?_
  refine g_istore_n (lv' := [(3, vI 0), (2, vI s0), (0, vR Y 199), (1, vI v1)]) C dX12_see_33 rfl (by decide) rfl ?_
  obtain ⟨f0, h⟩ := h
  refine G.sub [2, 3, 1, 0] rfl ?_
  exact w_X12_see_L34 C hR  f0 _ _ _ h
set_option maxRecDepth 20000 in
theorem w_X12_see_J30 {Y : YT} {X : CX} (C : Cx Y X cX12_see 4 RX12 2) {Q : Int → Mem → Prop} (hR : Rt Y X (some .int) (PQi Y Q)) {v1 : Int}  {M : Mem}  (h : m_X12_see_J30  Q v1 M) : G Y X 4 30 [(0, vR Y 199), (1, vI v1)] ([]) M := by
  unfold m_X12_see_J30 at h
  refine g_iconst C dX12_see_30 rfl ?_
  refine G.sub [0, 1] rfl ?_
  exact w_X12_see_J31 C hR  h
set_option maxRecDepth 20000 in
theorem t_X12_see {l : Launch} {Y : YT} (hY : YOK Y) {M : Mem} {Q : Int → Mem → Prop} (h : m_X12_see  M Q) : Ctr l Y yX12_see cX12_see 4 (some .int) 2 [vR Y 199] M (PQi Y Q) := by
  unfold m_X12_see at h
  refine ctr_ofF hY (by decide +kernel) (Nat.le_of_ble_eq_true rfl) [(0, vR Y 199)] rfl (fun X hX C hR => ?_)
  refine g_aload_n (q := 0) C dX12_see_0 rfl rfl ?_
  refine g_getI C fX12_13 (by decide) dX12_see_1 kd_199 ?_
  refine g_istore_n (lv' := [(1, vI (M 199 1)), (0, vR Y 199)]) C dX12_see_4 rfl (by decide) rfl ?_
  refine g_aload_n (q := 1) C dX12_see_5 rfl rfl ?_
  refine g_iconst C dX12_see_6 rfl ?_
  obtain ⟨M28, e_M28⟩ : ∃ z : Mem, z = up M 199 1 0 := ⟨_, rfl⟩
  have h := h M28 e_M28
  refine g_putI C fX12_13 pX12_13 dX12_see_7 kd_199 e_M28 ?_
  refine g_iload_n (q := 0) C dX12_see_10 rfl rfl ?_
  obtain ⟨g29, h⟩ := h
  obtain ⟨ht, hf⟩ := h
  refine g_if_le (tgt := 30) C dX12_see_11 (by decide) g29 (fun c => ?_) (fun c => ?_)
  · have h := ht c
    refine G.sub [1, 0] rfl ?_
    exact w_X12_see_J30 C hR  h
  · have h := hf c
    refine g_iload_n (q := 0) C dX12_see_14 rfl rfl ?_
    refine g_iconst C dX12_see_15 rfl ?_
    obtain ⟨g30, h⟩ := h
    refine g_irem C dX12_see_16 g30 (by decide) (by decide) ?_
    obtain ⟨g31, h⟩ := h
    obtain ⟨ht, hf⟩ := h
    refine g_if_ne (tgt := 30) C dX12_see_17 (by decide) g31 (fun c => ?_) (fun c => ?_)
    · have h := hf c
      refine G.sub [1, 0] rfl ?_
      exact w_X12_see_J30 C hR  h
    · have h := ht c
      refine g_iload_n (q := 0) C dX12_see_20 rfl rfl ?_
      refine g_bipush (v := 48) C dX12_see_21 (by decide +kernel) ?_
      obtain ⟨g32, h⟩ := h
      obtain ⟨ht, hf⟩ := h
      refine g_icmp_gt (tgt := 30) C dX12_see_23 (by decide) g32 (by decide) (fun c => ?_) (fun c => ?_)
      · have h := ht c
        refine G.sub [1, 0] rfl ?_
        exact w_X12_see_J30 C hR  h
      · have h := hf c
        refine g_iconst C dX12_see_26 rfl ?_
        refine g_goto (tgt := 31) C dX12_see_27 (by decide) ?_
        refine G.sub [1, 0] rfl ?_
        exact w_X12_see_J31 C hR  h
