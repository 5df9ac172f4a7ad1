theorem dX11_far_0 : decode cX11_far 0 = .ok (.aload_n 0, 1) := by decide +kernel
theorem dX11_far_1 : decode cX11_far 1 = .ok (.iload_n 1, 1) := by decide +kernel
theorem dX11_far_2 : decode cX11_far 2 = .ok (.invokevirtual 167, 3) := by decide +kernel
theorem dX11_far_5 : decode cX11_far 5 = .ok (.ifCond .eq 23, 3) := by decide +kernel
theorem dX11_far_8 : decode cX11_far 8 = .ok (.aload_n 0, 1) := by decide +kernel
theorem dX11_far_9 : decode cX11_far 9 = .ok (.iload_n 2, 1) := by decide +kernel
theorem dX11_far_10 : decode cX11_far 10 = .ok (.invokevirtual 167, 3) := by decide +kernel
theorem dX11_far_13 : decode cX11_far 13 = .ok (.ifCond .eq 15, 3) := by decide +kernel
theorem dX11_far_16 : decode cX11_far 16 = .ok (.aload_n 0, 1) := by decide +kernel
theorem dX11_far_17 : decode cX11_far 17 = .ok (.getfield 28, 3) := by decide +kernel
theorem dX11_far_20 : decode cX11_far 20 = .ok (.iload_n 1, 1) := by decide +kernel
theorem dX11_far_21 : decode cX11_far 21 = .ok (.iload_n 2, 1) := by decide +kernel
theorem dX11_far_22 : decode cX11_far 22 = .ok (.invokevirtual 183, 3) := by decide +kernel
theorem dX11_far_25 : decode cX11_far 25 = .ok (.goto 4, 3) := by decide +kernel
theorem dX11_far_28 : decode cX11_far 28 = .ok (.iconst (-1), 1) := by decide +kernel
theorem dX11_far_29 : decode cX11_far 29 = .ok (.ireturn, 1) := by decide +kernel
theorem dX11_person_0 : decode cX11_person 0 = .ok (.aload_n 0, 1) := by decide +kernel
theorem dX11_person_1 : decode cX11_person 1 = .ok (.iload_n 1, 1) := by decide +kernel
theorem dX11_person_2 : decode cX11_person 2 = .ok (.invokevirtual 177, 3) := by decide +kernel
theorem dX11_person_5 : decode cX11_person 5 = .ok (.ifCond .ne 5, 3) := by decide +kernel
theorem dX11_person_8 : decode cX11_person 8 = .ok (.iconst (-1), 1) := by decide +kernel
theorem dX11_person_9 : decode cX11_person 9 = .ok (.ireturn, 1) := by decide +kernel
theorem dX11_person_10 : decode cX11_person 10 = .ok (.iload_n 2, 1) := by decide +kernel
theorem dX11_person_11 : decode cX11_person 11 = .ok (.tableswitch 62 0 2 #[25, 35, 45], 25) := by decide +kernel
theorem dX11_person_36 : decode cX11_person 36 = .ok (.aload_n 0, 1) := by decide +kernel
theorem dX11_person_37 : decode cX11_person 37 = .ok (.getfield 38, 3) := by decide +kernel
theorem dX11_person_40 : decode cX11_person 40 = .ok (.getfield 186, 3) := by decide +kernel
theorem dX11_person_43 : decode cX11_person 43 = .ok (.iload_n 1, 1) := by decide +kernel
theorem dX11_person_44 : decode cX11_person 44 = .ok (.iaload, 1) := by decide +kernel
theorem dX11_person_45 : decode cX11_person 45 = .ok (.ireturn, 1) := by decide +kernel
theorem dX11_person_46 : decode cX11_person 46 = .ok (.aload_n 0, 1) := by decide +kernel
theorem dX11_person_47 : decode cX11_person 47 = .ok (.getfield 28, 3) := by decide +kernel
theorem dX11_person_50 : decode cX11_person 50 = .ok (.getfield 189, 3) := by decide +kernel
theorem dX11_person_53 : decode cX11_person 53 = .ok (.iload_n 1, 1) := by decide +kernel
theorem dX11_person_54 : decode cX11_person 54 = .ok (.iaload, 1) := by decide +kernel
theorem dX11_person_55 : decode cX11_person 55 = .ok (.ireturn, 1) := by decide +kernel
theorem dX11_person_56 : decode cX11_person 56 = .ok (.aload_n 0, 1) := by decide +kernel
theorem dX11_person_57 : decode cX11_person 57 = .ok (.getfield 38, 3) := by decide +kernel
theorem dX11_person_60 : decode cX11_person 60 = .ok (.iload_n 1, 1) := by decide +kernel
theorem dX11_person_61 : decode cX11_person 61 = .ok (.invokevirtual 192, 3) := by decide +kernel
theorem dX11_person_64 : decode cX11_person 64 = .ok (.ifCond .eq 7, 3) := by decide +kernel
theorem dX11_person_67 : decode cX11_person 67 = .ok (.iconst 1, 1) := by decide +kernel
theorem dX11_person_68 : decode cX11_person 68 = .ok (.goto 4, 3) := by decide +kernel
theorem dX11_person_71 : decode cX11_person 71 = .ok (.iconst 0, 1) := by decide +kernel
theorem dX11_person_72 : decode cX11_person 72 = .ok (.ireturn, 1) := by decide +kernel
theorem dX11_person_73 : decode cX11_person 73 = .ok (.iconst (-1), 1) := by decide +kernel
theorem dX11_person_74 : decode cX11_person 74 = .ok (.ireturn, 1) := by decide +kernel
theorem dX11_isFrame_0 : decode cX11_isFrame 0 = .ok (.iload_n 1, 1) := by decide +kernel
theorem dX11_isFrame_1 : decode cX11_isFrame 1 = .ok (.ifCond .lt 21, 3) := by decide +kernel
theorem dX11_isFrame_4 : decode cX11_isFrame 4 = .ok (.iload_n 1, 1) := by decide +kernel
theorem dX11_isFrame_5 : decode cX11_isFrame 5 = .ok (.aload_n 0, 1) := by decide +kernel
theorem dX11_isFrame_6 : decode cX11_isFrame 6 = .ok (.getfield 38, 3) := by decide +kernel
theorem dX11_isFrame_9 : decode cX11_isFrame 9 = .ok (.getfield 135, 3) := by decide +kernel
theorem dX11_isFrame_12 : decode cX11_isFrame 12 = .ok (.getfield 139, 3) := by decide +kernel
theorem dX11_isFrame_15 : decode cX11_isFrame 15 = .ok (.if_icmp .ge 7, 3) := by decide +kernel
theorem dX11_isFrame_18 : decode cX11_isFrame 18 = .ok (.iconst 1, 1) := by decide +kernel
theorem dX11_isFrame_19 : decode cX11_isFrame 19 = .ok (.goto 4, 3) := by decide +kernel
theorem dX11_isFrame_22 : decode cX11_isFrame 22 = .ok (.iconst 0, 1) := by decide +kernel
theorem dX11_isFrame_23 : decode cX11_isFrame 23 = .ok (.ireturn, 1) := by decide +kernel
theorem dX11_frame_0 : decode cX11_frame 0 = .ok (.aload_n 0, 1) := by decide +kernel
theorem dX11_frame_1 : decode cX11_frame 1 = .ok (.iload_n 1, 1) := by decide +kernel
theorem dX11_frame_2 : decode cX11_frame 2 = .ok (.invokevirtual 195, 3) := by decide +kernel
theorem dX11_frame_5 : decode cX11_frame 5 = .ok (.ifCond .ne 5, 3) := by decide +kernel
theorem dX11_frame_8 : decode cX11_frame 8 = .ok (.iconst (-1), 1) := by decide +kernel
theorem dX11_frame_9 : decode cX11_frame 9 = .ok (.ireturn, 1) := by decide +kernel
theorem dX11_frame_10 : decode cX11_frame 10 = .ok (.aload_n 0, 1) := by decide +kernel
theorem dX11_frame_11 : decode cX11_frame 11 = .ok (.getfield 38, 3) := by decide +kernel
theorem dX11_frame_14 : decode cX11_frame 14 = .ok (.getfield 135, 3) := by decide +kernel
theorem dX11_frame_17 : decode cX11_frame 17 = .ok (.astore_n 3, 1) := by decide +kernel
theorem dX11_frame_18 : decode cX11_frame 18 = .ok (.iload_n 2, 1) := by decide +kernel
theorem dX11_frame_19 : decode cX11_frame 19 = .ok (.tableswitch 92 0 4 #[33, 40, 47, 54, 72], 33) := by decide +kernel
theorem dX11_frame_52 : decode cX11_frame 52 = .ok (.aload_n 3, 1) := by decide +kernel
theorem dX11_frame_53 : decode cX11_frame 53 = .ok (.getfield 198, 3) := by decide +kernel
theorem dX11_frame_56 : decode cX11_frame 56 = .ok (.iload_n 1, 1) := by decide +kernel
theorem dX11_frame_57 : decode cX11_frame 57 = .ok (.iaload, 1) := by decide +kernel
theorem dX11_frame_58 : decode cX11_frame 58 = .ok (.ireturn, 1) := by decide +kernel
theorem dX11_frame_59 : decode cX11_frame 59 = .ok (.aload_n 3, 1) := by decide +kernel
theorem dX11_frame_60 : decode cX11_frame 60 = .ok (.getfield 201, 3) := by decide +kernel
theorem dX11_frame_63 : decode cX11_frame 63 = .ok (.iload_n 1, 1) := by decide +kernel
theorem dX11_frame_64 : decode cX11_frame 64 = .ok (.iaload, 1) := by decide +kernel
theorem dX11_frame_65 : decode cX11_frame 65 = .ok (.ireturn, 1) := by decide +kernel
theorem dX11_frame_66 : decode cX11_frame 66 = .ok (.aload_n 3, 1) := by decide +kernel
theorem dX11_frame_67 : decode cX11_frame 67 = .ok (.getfield 204, 3) := by decide +kernel
theorem dX11_frame_70 : decode cX11_frame 70 = .ok (.iload_n 1, 1) := by decide +kernel
theorem dX11_frame_71 : decode cX11_frame 71 = .ok (.iaload, 1) := by decide +kernel
theorem dX11_frame_72 : decode cX11_frame 72 = .ok (.ireturn, 1) := by decide +kernel
theorem dX11_frame_73 : decode cX11_frame 73 = .ok (.aload_n 0, 1) := by decide +kernel
theorem dX11_frame_74 : decode cX11_frame 74 = .ok (.invokevirtual 152, 3) := by decide +kernel
theorem dX11_frame_77 : decode cX11_frame 77 = .ok (.aload_n 3, 1) := by decide +kernel
theorem dX11_frame_78 : decode cX11_frame 78 = .ok (.iload_n 1, 1) := by decide +kernel
theorem dX11_frame_79 : decode cX11_frame 79 = .ok (.invokevirtual 207, 3) := by decide +kernel
theorem dX11_frame_82 : decode cX11_frame 82 = .ok (.ifCond .eq 7, 3) := by decide +kernel
theorem dX11_frame_85 : decode cX11_frame 85 = .ok (.iconst 1, 1) := by decide +kernel
theorem dX11_frame_86 : decode cX11_frame 86 = .ok (.goto 4, 3) := by decide +kernel
theorem dX11_frame_89 : decode cX11_frame 89 = .ok (.iconst 0, 1) := by decide +kernel
theorem dX11_frame_90 : decode cX11_frame 90 = .ok (.ireturn, 1) := by decide +kernel
theorem dX11_frame_91 : decode cX11_frame 91 = .ok (.aload_n 0, 1) := by decide +kernel
theorem dX11_frame_92 : decode cX11_frame 92 = .ok (.invokevirtual 152, 3) := by decide +kernel
theorem dX11_frame_95 : decode cX11_frame 95 = .ok (.aload_n 3, 1) := by decide +kernel
theorem dX11_frame_96 : decode cX11_frame 96 = .ok (.getfield 201, 3) := by decide +kernel
theorem dX11_frame_99 : decode cX11_frame 99 = .ok (.iload_n 1, 1) := by decide +kernel
theorem dX11_frame_100 : decode cX11_frame 100 = .ok (.iaload, 1) := by decide +kernel
theorem dX11_frame_101 : decode cX11_frame 101 = .ok (.aload_n 3, 1) := by decide +kernel
theorem dX11_frame_102 : decode cX11_frame 102 = .ok (.getfield 198, 3) := by decide +kernel
theorem dX11_frame_105 : decode cX11_frame 105 = .ok (.iload_n 1, 1) := by decide +kernel
theorem dX11_frame_106 : decode cX11_frame 106 = .ok (.iaload, 1) := by decide +kernel
theorem dX11_frame_107 : decode cX11_frame 107 = .ok (.invokevirtual 211, 3) := by decide +kernel
theorem dX11_frame_110 : decode cX11_frame 110 = .ok (.ireturn, 1) := by decide +kernel
theorem dX11_frame_111 : decode cX11_frame 111 = .ok (.iconst (-1), 1) := by decide +kernel
theorem dX11_frame_112 : decode cX11_frame 112 = .ok (.ireturn, 1) := by decide +kernel
theorem dX11_where_0 : decode cX11_where 0 = .ok (.aload_n 0, 1) := by decide +kernel
theorem dX11_where_1 : decode cX11_where 1 = .ok (.iload_n 1, 1) := by decide +kernel
theorem dX11_where_2 : decode cX11_where 2 = .ok (.invokevirtual 177, 3) := by decide +kernel
theorem dX11_where_5 : decode cX11_where 5 = .ok (.ifCond .eq 13, 3) := by decide +kernel
theorem dX11_where_8 : decode cX11_where 8 = .ok (.iload_n 2, 1) := by decide +kernel
theorem dX11_where_9 : decode cX11_where 9 = .ok (.ifCond .lt 9, 3) := by decide +kernel
theorem dX11_where_12 : decode cX11_where 12 = .ok (.iload_n 2, 1) := by decide +kernel
theorem dX11_where_13 : decode cX11_where 13 = .ok (.bipush 8, 2) := by decide +kernel
theorem dX11_where_15 : decode cX11_where 15 = .ok (.if_icmp .le 5, 3) := by decide +kernel
theorem dX11_where_18 : decode cX11_where 18 = .ok (.iconst (-1), 1) := by decide +kernel
theorem dX11_where_19 : decode cX11_where 19 = .ok (.ireturn, 1) := by decide +kernel
theorem dX11_where_20 : decode cX11_where 20 = .ok (.aload_n 0, 1) := by decide +kernel
theorem dX11_where_21 : decode cX11_where 21 = .ok (.invokevirtual 152, 3) := by decide +kernel
theorem dX11_where_24 : decode cX11_where 24 = .ok (.iload_n 1, 1) := by decide +kernel
theorem dX11_where_25 : decode cX11_where 25 = .ok (.iload_n 2, 1) := by decide +kernel
theorem dX11_where_26 : decode cX11_where 26 = .ok (.invokevirtual 214, 3) := by decide +kernel
theorem dX11_where_29 : decode cX11_where 29 = .ok (.ireturn, 1) := by decide +kernel
theorem dX11_who_0 : decode cX11_who 0 = .ok (.aload_n 0, 1) := by decide +kernel
theorem dX11_who_1 : decode cX11_who 1 = .ok (.iload_n 1, 1) := by decide +kernel
theorem dX11_who_2 : decode cX11_who 2 = .ok (.invokevirtual 167, 3) := by decide +kernel
theorem dX11_who_5 : decode cX11_who 5 = .ok (.ifCond .eq 13, 3) := by decide +kernel
theorem dX11_who_8 : decode cX11_who 8 = .ok (.iload_n 2, 1) := by decide +kernel
theorem dX11_who_9 : decode cX11_who 9 = .ok (.ifCond .lt 9, 3) := by decide +kernel
theorem dX11_who_12 : decode cX11_who 12 = .ok (.iload_n 2, 1) := by decide +kernel
theorem dX11_who_13 : decode cX11_who 13 = .ok (.bipush 8, 2) := by decide +kernel
theorem dX11_who_15 : decode cX11_who 15 = .ok (.if_icmp .le 5, 3) := by decide +kernel
theorem dX11_who_18 : decode cX11_who 18 = .ok (.iconst (-1), 1) := by decide +kernel
theorem dX11_who_19 : decode cX11_who 19 = .ok (.ireturn, 1) := by decide +kernel
theorem dX11_who_20 : decode cX11_who 20 = .ok (.aload_n 0, 1) := by decide +kernel
theorem dX11_who_21 : decode cX11_who 21 = .ok (.invokevirtual 152, 3) := by decide +kernel
theorem dX11_who_24 : decode cX11_who 24 = .ok (.iload_n 1, 1) := by decide +kernel
theorem dX11_who_25 : decode cX11_who 25 = .ok (.iload_n 2, 1) := by decide +kernel
theorem dX11_who_26 : decode cX11_who 26 = .ok (.invokevirtual 211, 3) := by decide +kernel
theorem dX11_who_29 : decode cX11_who 29 = .ok (.ireturn, 1) := by decide +kernel
theorem dX11_agrees_0 : decode cX11_agrees 0 = .ok (.aload_n 0, 1) := by decide +kernel
theorem dX11_agrees_1 : decode cX11_agrees 1 = .ok (.invokevirtual 152, 3) := by decide +kernel
theorem dX11_agrees_4 : decode cX11_agrees 4 = .ok (.aload_n 0, 1) := by decide +kernel
theorem dX11_agrees_5 : decode cX11_agrees 5 = .ok (.getfield 38, 3) := by decide +kernel
theorem dX11_agrees_8 : decode cX11_agrees 8 = .ok (.getfield 135, 3) := by decide +kernel
theorem dX11_agrees_11 : decode cX11_agrees 11 = .ok (.invokevirtual 217, 3) := by decide +kernel
theorem dX11_agrees_14 : decode cX11_agrees 14 = .ok (.ifCond .eq 7, 3) := by decide +kernel
theorem dX11_agrees_17 : decode cX11_agrees 17 = .ok (.iconst 1, 1) := by decide +kernel
theorem dX11_agrees_18 : decode cX11_agrees 18 = .ok (.goto 4, 3) := by decide +kernel
theorem dX11_agrees_21 : decode cX11_agrees 21 = .ok (.iconst 0, 1) := by decide +kernel
theorem dX11_agrees_22 : decode cX11_agrees 22 = .ok (.ireturn, 1) := by decide +kernel
theorem dX11_self_0 : decode cX11_self 0 = .ok (.iload_n 1, 1) := by decide +kernel
theorem dX11_self_1 : decode cX11_self 1 = .ok (.invokestatic 221, 3) := by decide +kernel
theorem dX11_self_4 : decode cX11_self 4 = .ok (.ifCond .eq 11, 3) := by decide +kernel
theorem dX11_self_7 : decode cX11_self 7 = .ok (.aload_n 0, 1) := by decide +kernel
theorem dX11_self_8 : decode cX11_self 8 = .ok (.iload_n 2, 1) := by decide +kernel
theorem dX11_self_9 : decode cX11_self 9 = .ok (.invokevirtual 167, 3) := by decide +kernel
theorem dX11_self_12 : decode cX11_self 12 = .ok (.ifCond .ne 5, 3) := by decide +kernel
theorem dX11_self_15 : decode cX11_self 15 = .ok (.iconst (-1), 1) := by decide +kernel
theorem dX11_self_16 : decode cX11_self 16 = .ok (.ireturn, 1) := by decide +kernel
theorem dX11_self_17 : decode cX11_self 17 = .ok (.iconst 0, 1) := by decide +kernel
theorem dX11_self_18 : decode cX11_self 18 = .ok (.istore_n 3, 1) := by decide +kernel
theorem dX11_self_19 : decode cX11_self 19 = .ok (.aload_n 0, 1) := by decide +kernel
theorem dX11_self_20 : decode cX11_self 20 = .ok (.getfield 42, 3) := by decide +kernel
theorem dX11_self_23 : decode cX11_self 23 = .ok (.aload_n 0, 1) := by decide +kernel
theorem dX11_self_24 : decode cX11_self 24 = .ok (.getfield 38, 3) := by decide +kernel
theorem dX11_self_27 : decode cX11_self 27 = .ok (.invokevirtual 224, 3) := by decide +kernel
theorem dX11_self_30 : decode cX11_self 30 = .ok (.iconst 0, 1) := by decide +kernel
theorem dX11_self_31 : decode cX11_self 31 = .ok (.istore 4, 2) := by decide +kernel
theorem dX11_self_33 : decode cX11_self 33 = .ok (.iload 4, 2) := by decide +kernel
theorem dX11_self_35 : decode cX11_self 35 = .ok (.bipush 6, 2) := by decide +kernel
theorem dX11_self_37 : decode cX11_self 37 = .ok (.if_icmp .gt 59, 3) := by decide +kernel
theorem dX11_self_40 : decode cX11_self 40 = .ok (.aload_n 0, 1) := by decide +kernel
theorem dX11_self_41 : decode cX11_self 41 = .ok (.getfield 42, 3) := by decide +kernel
theorem dX11_self_44 : decode cX11_self 44 = .ok (.getfield 135, 3) := by decide +kernel
theorem dX11_self_47 : decode cX11_self 47 = .ok (.iload_n 1, 1) := by decide +kernel
theorem dX11_self_48 : decode cX11_self 48 = .ok (.iload_n 2, 1) := by decide +kernel
theorem dX11_self_49 : decode cX11_self 49 = .ok (.iload 4, 2) := by decide +kernel
theorem dX11_self_51 : decode cX11_self 51 = .ok (.invokevirtual 228, 3) := by decide +kernel
theorem dX11_self_54 : decode cX11_self 54 = .ok (.aload_n 0, 1) := by decide +kernel
theorem dX11_self_55 : decode cX11_self 55 = .ok (.getfield 52, 3) := by decide +kernel
theorem dX11_self_58 : decode cX11_self 58 = .ok (.aload_n 0, 1) := by decide +kernel
theorem dX11_self_59 : decode cX11_self 59 = .ok (.getfield 28, 3) := by decide +kernel
theorem dX11_self_62 : decode cX11_self 62 = .ok (.aload_n 0, 1) := by decide +kernel
theorem dX11_self_63 : decode cX11_self 63 = .ok (.getfield 42, 3) := by decide +kernel
theorem dX11_self_66 : decode cX11_self 66 = .ok (.invokevirtual 232, 3) := by decide +kernel
theorem dX11_self_69 : decode cX11_self 69 = .ok (.aload_n 0, 1) := by decide +kernel
theorem dX11_self_70 : decode cX11_self 70 = .ok (.getfield 52, 3) := by decide +kernel
theorem dX11_self_73 : decode cX11_self 73 = .ok (.iload_n 2, 1) := by decide +kernel
theorem dX11_self_74 : decode cX11_self 74 = .ok (.iload_n 1, 1) := by decide +kernel
theorem dX11_self_75 : decode cX11_self 75 = .ok (.invokevirtual 236, 3) := by decide +kernel
theorem dX11_self_78 : decode cX11_self 78 = .ok (.iload 4, 2) := by decide +kernel
theorem dX11_self_80 : decode cX11_self 80 = .ok (.if_icmp .ne 10, 3) := by decide +kernel
theorem dX11_self_83 : decode cX11_self 83 = .ok (.iload_n 3, 1) := by decide +kernel
theorem dX11_self_84 : decode cX11_self 84 = .ok (.iconst 1, 1) := by decide +kernel
theorem dX11_self_85 : decode cX11_self 85 = .ok (.iload 4, 2) := by decide +kernel
theorem dX11_self_87 : decode cX11_self 87 = .ok (.ishl, 1) := by decide +kernel
theorem dX11_self_88 : decode cX11_self 88 = .ok (.ior, 1) := by decide +kernel
theorem dX11_self_89 : decode cX11_self 89 = .ok (.istore_n 3, 1) := by decide +kernel
theorem dX11_self_90 : decode cX11_self 90 = .ok (.iinc 4 1, 3) := by decide +kernel
theorem dX11_self_93 : decode cX11_self 93 = .ok (.goto (-60), 3) := by decide +kernel
theorem dX11_self_96 : decode cX11_self 96 = .ok (.iload_n 3, 1) := by decide +kernel
theorem dX11_self_97 : decode cX11_self 97 = .ok (.ireturn, 1) := by decide +kernel
theorem dX11_agreesWithout_0 : decode cX11_agreesWithout 0 = .ok (.aload_n 0, 1) := by decide +kernel
theorem dX11_agreesWithout_1 : decode cX11_agreesWithout 1 = .ok (.getfield 42, 3) := by decide +kernel
theorem dX11_agreesWithout_4 : decode cX11_agreesWithout 4 = .ok (.aload_n 0, 1) := by decide +kernel
theorem dX11_agreesWithout_5 : decode cX11_agreesWithout 5 = .ok (.getfield 38, 3) := by decide +kernel
theorem dX11_agreesWithout_8 : decode cX11_agreesWithout 8 = .ok (.invokevirtual 224, 3) := by decide +kernel
theorem dX11_agreesWithout_11 : decode cX11_agreesWithout 11 = .ok (.aload_n 0, 1) := by decide +kernel
theorem dX11_agreesWithout_12 : decode cX11_agreesWithout 12 = .ok (.getfield 38, 3) := by decide +kernel
theorem dX11_agreesWithout_15 : decode cX11_agreesWithout 15 = .ok (.getfield 135, 3) := by decide +kernel
theorem dX11_agreesWithout_18 : decode cX11_agreesWithout 18 = .ok (.getfield 139, 3) := by decide +kernel
theorem dX11_agreesWithout_21 : decode cX11_agreesWithout 21 = .ok (.iconst 1, 1) := by decide +kernel
theorem dX11_agreesWithout_22 : decode cX11_agreesWithout 22 = .ok (.isub, 1) := by decide +kernel
theorem dX11_agreesWithout_23 : decode cX11_agreesWithout 23 = .ok (.istore_n 2, 1) := by decide +kernel
theorem dX11_agreesWithout_24 : decode cX11_agreesWithout 24 = .ok (.iload_n 2, 1) := by decide +kernel
theorem dX11_agreesWithout_25 : decode cX11_agreesWithout 25 = .ok (.ifCond .lt 29, 3) := by decide +kernel
theorem dX11_agreesWithout_28 : decode cX11_agreesWithout 28 = .ok (.iload_n 1, 1) := by decide +kernel
theorem dX11_agreesWithout_29 : decode cX11_agreesWithout 29 = .ok (.iload_n 2, 1) := by decide +kernel
theorem dX11_agreesWithout_30 : decode cX11_agreesWithout 30 = .ok (.ishr, 1) := by decide +kernel
theorem dX11_agreesWithout_31 : decode cX11_agreesWithout 31 = .ok (.iconst 1, 1) := by decide +kernel
theorem dX11_agreesWithout_32 : decode cX11_agreesWithout 32 = .ok (.iand, 1) := by decide +kernel
theorem dX11_agreesWithout_33 : decode cX11_agreesWithout 33 = .ok (.iconst 1, 1) := by decide +kernel
theorem dX11_agreesWithout_34 : decode cX11_agreesWithout 34 = .ok (.if_icmp .ne 14, 3) := by decide +kernel
theorem dX11_agreesWithout_37 : decode cX11_agreesWithout 37 = .ok (.aload_n 0, 1) := by decide +kernel
theorem dX11_agreesWithout_38 : decode cX11_agreesWithout 38 = .ok (.getfield 42, 3) := by decide +kernel
theorem dX11_agreesWithout_41 : decode cX11_agreesWithout 41 = .ok (.getfield 135, 3) := by decide +kernel
theorem dX11_agreesWithout_44 : decode cX11_agreesWithout 44 = .ok (.iload_n 2, 1) := by decide +kernel
theorem dX11_agreesWithout_45 : decode cX11_agreesWithout 45 = .ok (.invokevirtual 299, 3) := by decide +kernel
theorem dX11_agreesWithout_48 : decode cX11_agreesWithout 48 = .ok (.iinc 2 (-1), 3) := by decide +kernel
theorem dX11_agreesWithout_51 : decode cX11_agreesWithout 51 = .ok (.goto (-27), 3) := by decide +kernel
theorem dX11_agreesWithout_54 : decode cX11_agreesWithout 54 = .ok (.aload_n 0, 1) := by decide +kernel
theorem dX11_agreesWithout_55 : decode cX11_agreesWithout 55 = .ok (.getfield 52, 3) := by decide +kernel
theorem dX11_agreesWithout_58 : decode cX11_agreesWithout 58 = .ok (.aload_n 0, 1) := by decide +kernel
theorem dX11_agreesWithout_59 : decode cX11_agreesWithout 59 = .ok (.getfield 28, 3) := by decide +kernel
theorem dX11_agreesWithout_62 : decode cX11_agreesWithout 62 = .ok (.aload_n 0, 1) := by decide +kernel
theorem dX11_agreesWithout_63 : decode cX11_agreesWithout 63 = .ok (.getfield 42, 3) := by decide +kernel
theorem dX11_agreesWithout_66 : decode cX11_agreesWithout 66 = .ok (.invokevirtual 242, 3) := by decide +kernel
theorem dX11_agreesWithout_69 : decode cX11_agreesWithout 69 = .ok (.ireturn, 1) := by decide +kernel
theorem dX11_cuts_0 : decode cX11_cuts 0 = .ok (.aload_n 0, 1) := by decide +kernel
theorem dX11_cuts_1 : decode cX11_cuts 1 = .ok (.getfield 38, 3) := by decide +kernel
theorem dX11_cuts_4 : decode cX11_cuts 4 = .ok (.getfield 135, 3) := by decide +kernel
theorem dX11_cuts_7 : decode cX11_cuts 7 = .ok (.getfield 139, 3) := by decide +kernel
theorem dX11_cuts_10 : decode cX11_cuts 10 = .ok (.istore_n 1, 1) := by decide +kernel
theorem dX11_cuts_11 : decode cX11_cuts 11 = .ok (.iconst 1, 1) := by decide +kernel
theorem dX11_cuts_12 : decode cX11_cuts 12 = .ok (.iload_n 1, 1) := by decide +kernel
theorem dX11_cuts_13 : decode cX11_cuts 13 = .ok (.ishl, 1) := by decide +kernel
theorem dX11_cuts_14 : decode cX11_cuts 14 = .ok (.istore_n 2, 1) := by decide +kernel
theorem dX11_cuts_15 : decode cX11_cuts 15 = .ok (.iconst 0, 1) := by decide +kernel
theorem dX11_cuts_16 : decode cX11_cuts 16 = .ok (.istore_n 3, 1) := by decide +kernel
theorem dX11_cuts_17 : decode cX11_cuts 17 = .ok (.iload_n 3, 1) := by decide +kernel
theorem dX11_cuts_18 : decode cX11_cuts 18 = .ok (.iload_n 1, 1) := by decide +kernel
theorem dX11_cuts_19 : decode cX11_cuts 19 = .ok (.if_icmp .gt 45, 3) := by decide +kernel
theorem dX11_cuts_22 : decode cX11_cuts 22 = .ok (.iconst 0, 1) := by decide +kernel
theorem dX11_cuts_23 : decode cX11_cuts 23 = .ok (.istore 4, 2) := by decide +kernel
theorem dX11_cuts_25 : decode cX11_cuts 25 = .ok (.iload 4, 2) := by decide +kernel
theorem dX11_cuts_27 : decode cX11_cuts 27 = .ok (.iload_n 2, 1) := by decide +kernel
theorem dX11_cuts_28 : decode cX11_cuts 28 = .ok (.if_icmp .ge 30, 3) := by decide +kernel
theorem dX11_cuts_31 : decode cX11_cuts 31 = .ok (.iload 4, 2) := by decide +kernel
theorem dX11_cuts_33 : decode cX11_cuts 33 = .ok (.invokestatic 147, 3) := by decide +kernel
theorem dX11_cuts_36 : decode cX11_cuts 36 = .ok (.iload_n 3, 1) := by decide +kernel
theorem dX11_cuts_37 : decode cX11_cuts 37 = .ok (.if_icmp .ne 15, 3) := by decide +kernel
theorem dX11_cuts_40 : decode cX11_cuts 40 = .ok (.aload_n 0, 1) := by decide +kernel
theorem dX11_cuts_41 : decode cX11_cuts 41 = .ok (.iload 4, 2) := by decide +kernel
theorem dX11_cuts_43 : decode cX11_cuts 43 = .ok (.invokevirtual 239, 3) := by decide +kernel
theorem dX11_cuts_46 : decode cX11_cuts 46 = .ok (.ifCond .eq 6, 3) := by decide +kernel
theorem dX11_cuts_49 : decode cX11_cuts 49 = .ok (.iload 4, 2) := by decide +kernel
theorem dX11_cuts_51 : decode cX11_cuts 51 = .ok (.ireturn, 1) := by decide +kernel
theorem dX11_cuts_52 : decode cX11_cuts 52 = .ok (.iinc 4 1, 3) := by decide +kernel
theorem dX11_cuts_55 : decode cX11_cuts 55 = .ok (.goto (-30), 3) := by decide +kernel
theorem dX11_cuts_58 : decode cX11_cuts 58 = .ok (.iinc 3 1, 3) := by decide +kernel
theorem dX11_cuts_61 : decode cX11_cuts 61 = .ok (.goto (-44), 3) := by decide +kernel
theorem dX11_cuts_64 : decode cX11_cuts 64 = .ok (.iload_n 2, 1) := by decide +kernel
theorem dX11_cuts_65 : decode cX11_cuts 65 = .ok (.iconst 1, 1) := by decide +kernel
theorem dX11_cuts_66 : decode cX11_cuts 66 = .ok (.isub, 1) := by decide +kernel
theorem dX11_cuts_67 : decode cX11_cuts 67 = .ok (.ireturn, 1) := by decide +kernel
theorem dX11_crowd_0 : decode cX11_crowd 0 = .ok (.aload_n 0, 1) := by decide +kernel
theorem dX11_crowd_1 : decode cX11_crowd 1 = .ok (.getfield 28, 3) := by decide +kernel
theorem dX11_crowd_4 : decode cX11_crowd 4 = .ok (.getfield 129, 3) := by decide +kernel
theorem dX11_crowd_7 : decode cX11_crowd 7 = .ok (.istore_n 1, 1) := by decide +kernel
theorem dX11_crowd_8 : decode cX11_crowd 8 = .ok (.iconst 1, 1) := by decide +kernel
theorem dX11_crowd_9 : decode cX11_crowd 9 = .ok (.iload_n 1, 1) := by decide +kernel
theorem dX11_crowd_10 : decode cX11_crowd 10 = .ok (.ishl, 1) := by decide +kernel
theorem dX11_crowd_11 : decode cX11_crowd 11 = .ok (.istore_n 2, 1) := by decide +kernel
theorem dX11_crowd_12 : decode cX11_crowd 12 = .ok (.aload_n 0, 1) := by decide +kernel
theorem dX11_crowd_13 : decode cX11_crowd 13 = .ok (.getfield 42, 3) := by decide +kernel
theorem dX11_crowd_16 : decode cX11_crowd 16 = .ok (.aload_n 0, 1) := by decide +kernel
theorem dX11_crowd_17 : decode cX11_crowd 17 = .ok (.getfield 38, 3) := by decide +kernel
theorem dX11_crowd_20 : decode cX11_crowd 20 = .ok (.invokevirtual 224, 3) := by decide +kernel
theorem dX11_crowd_23 : decode cX11_crowd 23 = .ok (.iconst 0, 1) := by decide +kernel
theorem dX11_crowd_24 : decode cX11_crowd 24 = .ok (.istore_n 3, 1) := by decide +kernel
theorem dX11_crowd_25 : decode cX11_crowd 25 = .ok (.iload_n 3, 1) := by decide +kernel
theorem dX11_crowd_26 : decode cX11_crowd 26 = .ok (.iload_n 1, 1) := by decide +kernel
theorem dX11_crowd_27 : decode cX11_crowd 27 = .ok (.if_icmp .gt 66, 3) := by decide +kernel
theorem dX11_crowd_30 : decode cX11_crowd 30 = .ok (.iconst 0, 1) := by decide +kernel
theorem dX11_crowd_31 : decode cX11_crowd 31 = .ok (.istore 4, 2) := by decide +kernel
theorem dX11_crowd_33 : decode cX11_crowd 33 = .ok (.iload 4, 2) := by decide +kernel
theorem dX11_crowd_35 : decode cX11_crowd 35 = .ok (.iload_n 2, 1) := by decide +kernel
theorem dX11_crowd_36 : decode cX11_crowd 36 = .ok (.if_icmp .ge 51, 3) := by decide +kernel
theorem dX11_crowd_39 : decode cX11_crowd 39 = .ok (.iload 4, 2) := by decide +kernel
theorem dX11_crowd_41 : decode cX11_crowd 41 = .ok (.invokestatic 147, 3) := by decide +kernel
theorem dX11_crowd_44 : decode cX11_crowd 44 = .ok (.iload_n 3, 1) := by decide +kernel
theorem dX11_crowd_45 : decode cX11_crowd 45 = .ok (.if_icmp .eq 6, 3) := by decide +kernel
theorem dX11_crowd_48 : decode cX11_crowd 48 = .ok (.goto 33, 3) := by decide +kernel
theorem dX11_crowd_51 : decode cX11_crowd 51 = .ok (.aload_n 0, 1) := by decide +kernel
theorem dX11_crowd_52 : decode cX11_crowd 52 = .ok (.getfield 42, 3) := by decide +kernel
theorem dX11_crowd_55 : decode cX11_crowd 55 = .ok (.iload 4, 2) := by decide +kernel
theorem dX11_crowd_57 : decode cX11_crowd 57 = .ok (.putfield 144, 3) := by decide +kernel
theorem dX11_crowd_60 : decode cX11_crowd 60 = .ok (.aload_n 0, 1) := by decide +kernel
theorem dX11_crowd_61 : decode cX11_crowd 61 = .ok (.getfield 52, 3) := by decide +kernel
theorem dX11_crowd_64 : decode cX11_crowd 64 = .ok (.aload_n 0, 1) := by decide +kernel
theorem dX11_crowd_65 : decode cX11_crowd 65 = .ok (.getfield 28, 3) := by decide +kernel
theorem dX11_crowd_68 : decode cX11_crowd 68 = .ok (.aload_n 0, 1) := by decide +kernel
theorem dX11_crowd_69 : decode cX11_crowd 69 = .ok (.getfield 42, 3) := by decide +kernel
theorem dX11_crowd_72 : decode cX11_crowd 72 = .ok (.invokevirtual 242, 3) := by decide +kernel
theorem dX11_crowd_75 : decode cX11_crowd 75 = .ok (.ifCond .eq 6, 3) := by decide +kernel
theorem dX11_crowd_78 : decode cX11_crowd 78 = .ok (.iload 4, 2) := by decide +kernel
theorem dX11_crowd_80 : decode cX11_crowd 80 = .ok (.ireturn, 1) := by decide +kernel
theorem dX11_crowd_81 : decode cX11_crowd 81 = .ok (.iinc 4 1, 3) := by decide +kernel
theorem dX11_crowd_84 : decode cX11_crowd 84 = .ok (.goto (-51), 3) := by decide +kernel
theorem dX11_crowd_87 : decode cX11_crowd 87 = .ok (.iinc 3 1, 3) := by decide +kernel
theorem dX11_crowd_90 : decode cX11_crowd 90 = .ok (.goto (-65), 3) := by decide +kernel
theorem dX11_crowd_93 : decode cX11_crowd 93 = .ok (.iconst (-1), 1) := by decide +kernel
theorem dX11_crowd_94 : decode cX11_crowd 94 = .ok (.ireturn, 1) := by decide +kernel
theorem dX11_empty_0 : decode cX11_empty 0 = .ok (.iconst 0, 1) := by decide +kernel
theorem dX11_empty_1 : decode cX11_empty 1 = .ok (.istore_n 1, 1) := by decide +kernel
theorem dX11_empty_2 : decode cX11_empty 2 = .ok (.aload_n 0, 1) := by decide +kernel
theorem dX11_empty_3 : decode cX11_empty 3 = .ok (.invokevirtual 152, 3) := by decide +kernel
theorem dX11_empty_6 : decode cX11_empty 6 = .ok (.astore_n 2, 1) := by decide +kernel
theorem dX11_empty_7 : decode cX11_empty 7 = .ok (.iconst 0, 1) := by decide +kernel
theorem dX11_empty_8 : decode cX11_empty 8 = .ok (.istore_n 3, 1) := by decide +kernel
theorem dX11_empty_9 : decode cX11_empty 9 = .ok (.iload_n 3, 1) := by decide +kernel
theorem dX11_empty_10 : decode cX11_empty 10 = .ok (.aload_n 0, 1) := by decide +kernel
theorem dX11_empty_11 : decode cX11_empty 11 = .ok (.getfield 28, 3) := by decide +kernel
theorem dX11_empty_14 : decode cX11_empty 14 = .ok (.getfield 123, 3) := by decide +kernel
theorem dX11_empty_17 : decode cX11_empty 17 = .ok (.if_icmp .ge 23, 3) := by decide +kernel
theorem dX11_empty_20 : decode cX11_empty 20 = .ok (.aload_n 2, 1) := by decide +kernel
theorem dX11_empty_21 : decode cX11_empty 21 = .ok (.iload_n 3, 1) := by decide +kernel
theorem dX11_empty_22 : decode cX11_empty 22 = .ok (.invokevirtual 246, 3) := by decide +kernel
theorem dX11_empty_25 : decode cX11_empty 25 = .ok (.ifCond .eq 9, 3) := by decide +kernel
theorem dX11_empty_28 : decode cX11_empty 28 = .ok (.iload_n 1, 1) := by decide +kernel
theorem dX11_empty_29 : decode cX11_empty 29 = .ok (.iconst 1, 1) := by decide +kernel
theorem dX11_empty_30 : decode cX11_empty 30 = .ok (.iload_n 3, 1) := by decide +kernel
theorem dX11_empty_31 : decode cX11_empty 31 = .ok (.ishl, 1) := by decide +kernel
theorem dX11_empty_32 : decode cX11_empty 32 = .ok (.ior, 1) := by decide +kernel
theorem dX11_empty_33 : decode cX11_empty 33 = .ok (.istore_n 1, 1) := by decide +kernel
theorem dX11_empty_34 : decode cX11_empty 34 = .ok (.iinc 3 1, 3) := by decide +kernel
theorem dX11_empty_37 : decode cX11_empty 37 = .ok (.goto (-28), 3) := by decide +kernel
theorem dX11_empty_40 : decode cX11_empty 40 = .ok (.iload_n 1, 1) := by decide +kernel
theorem dX11_empty_41 : decode cX11_empty 41 = .ok (.ireturn, 1) := by decide +kernel
theorem dX11_daysAhead_0 : decode cX11_daysAhead 0 = .ok (.bipush 40, 2) := by decide +kernel
theorem dX11_daysAhead_2 : decode cX11_daysAhead 2 = .ok (.sipush 999, 3) := by decide +kernel
theorem dX11_daysAhead_5 : decode cX11_daysAhead 5 = .ok (.aload_n 0, 1) := by decide +kernel
theorem dX11_daysAhead_6 : decode cX11_daysAhead 6 = .ok (.getfield 38, 3) := by decide +kernel
theorem dX11_daysAhead_9 : decode cX11_daysAhead 9 = .ok (.getfield 132, 3) := by decide +kernel
theorem dX11_daysAhead_12 : decode cX11_daysAhead 12 = .ok (.isub, 1) := by decide +kernel
theorem dX11_daysAhead_13 : decode cX11_daysAhead 13 = .ok (.invokestatic 322, 3) := by decide +kernel
theorem dX11_daysAhead_16 : decode cX11_daysAhead 16 = .ok (.ireturn, 1) := by decide +kernel
theorem dX11_later_0 : decode cX11_later 0 = .ok (.aload_n 0, 1) := by decide +kernel
theorem dX11_later_1 : decode cX11_later 1 = .ok (.iload_n 1, 1) := by decide +kernel
theorem dX11_later_2 : decode cX11_later 2 = .ok (.invokevirtual 177, 3) := by decide +kernel
theorem dX11_later_5 : decode cX11_later 5 = .ok (.ifCond .eq 15, 3) := by decide +kernel
theorem dX11_later_8 : decode cX11_later 8 = .ok (.iload_n 2, 1) := by decide +kernel
theorem dX11_later_9 : decode cX11_later 9 = .ok (.ifCond .lt 11, 3) := by decide +kernel
theorem dX11_later_12 : decode cX11_later 12 = .ok (.iload_n 2, 1) := by decide +kernel
theorem dX11_later_13 : decode cX11_later 13 = .ok (.aload_n 0, 1) := by decide +kernel
theorem dX11_later_14 : decode cX11_later 14 = .ok (.invokevirtual 249, 3) := by decide +kernel
theorem dX11_later_17 : decode cX11_later 17 = .ok (.if_icmp .le 5, 3) := by decide +kernel
theorem dX11_later_20 : decode cX11_later 20 = .ok (.iconst (-1), 1) := by decide +kernel
theorem dX11_later_21 : decode cX11_later 21 = .ok (.ireturn, 1) := by decide +kernel
theorem dX11_later_22 : decode cX11_later 22 = .ok (.aload_n 0, 1) := by decide +kernel
theorem dX11_later_23 : decode cX11_later 23 = .ok (.getfield 42, 3) := by decide +kernel
theorem dX11_later_26 : decode cX11_later 26 = .ok (.aload_n 0, 1) := by decide +kernel
theorem dX11_later_27 : decode cX11_later 27 = .ok (.getfield 38, 3) := by decide +kernel
theorem dX11_later_30 : decode cX11_later 30 = .ok (.invokevirtual 224, 3) := by decide +kernel
theorem dX11_later_33 : decode cX11_later 33 = .ok (.iconst 0, 1) := by decide +kernel
theorem dX11_later_34 : decode cX11_later 34 = .ok (.istore_n 3, 1) := by decide +kernel
theorem dX11_later_35 : decode cX11_later 35 = .ok (.iload_n 3, 1) := by decide +kernel
theorem dX11_later_36 : decode cX11_later 36 = .ok (.iload_n 2, 1) := by decide +kernel
theorem dX11_later_37 : decode cX11_later 37 = .ok (.if_icmp .ge 35, 3) := by decide +kernel
theorem dX11_later_40 : decode cX11_later 40 = .ok (.aload_n 0, 1) := by decide +kernel
theorem dX11_later_41 : decode cX11_later 41 = .ok (.getfield 52, 3) := by decide +kernel
theorem dX11_later_44 : decode cX11_later 44 = .ok (.aload_n 0, 1) := by decide +kernel
theorem dX11_later_45 : decode cX11_later 45 = .ok (.getfield 28, 3) := by decide +kernel
theorem dX11_later_48 : decode cX11_later 48 = .ok (.aload_n 0, 1) := by decide +kernel
theorem dX11_later_49 : decode cX11_later 49 = .ok (.getfield 42, 3) := by decide +kernel
theorem dX11_later_52 : decode cX11_later 52 = .ok (.invokevirtual 232, 3) := by decide +kernel
theorem dX11_later_55 : decode cX11_later 55 = .ok (.aload_n 0, 1) := by decide +kernel
theorem dX11_later_56 : decode cX11_later 56 = .ok (.getfield 42, 3) := by decide +kernel
theorem dX11_later_59 : decode cX11_later 59 = .ok (.aload_n 0, 1) := by decide +kernel
theorem dX11_later_60 : decode cX11_later 60 = .ok (.getfield 52, 3) := by decide +kernel
theorem dX11_later_63 : decode cX11_later 63 = .ok (.invokevirtual 252, 3) := by decide +kernel
theorem dX11_later_66 : decode cX11_later 66 = .ok (.iinc 3 1, 3) := by decide +kernel
theorem dX11_later_69 : decode cX11_later 69 = .ok (.goto (-34), 3) := by decide +kernel
theorem dX11_later_72 : decode cX11_later 72 = .ok (.aload_n 0, 1) := by decide +kernel
theorem dX11_later_73 : decode cX11_later 73 = .ok (.getfield 42, 3) := by decide +kernel
theorem dX11_later_76 : decode cX11_later 76 = .ok (.getfield 186, 3) := by decide +kernel
theorem dX11_later_79 : decode cX11_later 79 = .ok (.iload_n 1, 1) := by decide +kernel
theorem dX11_later_80 : decode cX11_later 80 = .ok (.iaload, 1) := by decide +kernel
theorem dX11_later_81 : decode cX11_later 81 = .ok (.ireturn, 1) := by decide +kernel
theorem dX11_meet_0 : decode cX11_meet 0 = .ok (.aload_n 0, 1) := by decide +kernel
theorem dX11_meet_1 : decode cX11_meet 1 = .ok (.iload_n 1, 1) := by decide +kernel
theorem dX11_meet_2 : decode cX11_meet 2 = .ok (.invokevirtual 177, 3) := by decide +kernel
theorem dX11_meet_5 : decode cX11_meet 5 = .ok (.ifCond .eq 16, 3) := by decide +kernel
theorem dX11_meet_8 : decode cX11_meet 8 = .ok (.aload_n 0, 1) := by decide +kernel
theorem dX11_meet_9 : decode cX11_meet 9 = .ok (.iload_n 2, 1) := by decide +kernel
theorem dX11_meet_10 : decode cX11_meet 10 = .ok (.invokevirtual 177, 3) := by decide +kernel
theorem dX11_meet_13 : decode cX11_meet 13 = .ok (.ifCond .eq 8, 3) := by decide +kernel
theorem dX11_meet_16 : decode cX11_meet 16 = .ok (.iload_n 1, 1) := by decide +kernel
theorem dX11_meet_17 : decode cX11_meet 17 = .ok (.iload_n 2, 1) := by decide +kernel
theorem dX11_meet_18 : decode cX11_meet 18 = .ok (.if_icmp .ne 5, 3) := by decide +kernel
theorem dX11_meet_21 : decode cX11_meet 21 = .ok (.iconst (-1), 1) := by decide +kernel
theorem dX11_meet_22 : decode cX11_meet 22 = .ok (.ireturn, 1) := by decide +kernel
theorem dX11_meet_23 : decode cX11_meet 23 = .ok (.aload_n 0, 1) := by decide +kernel
theorem dX11_meet_24 : decode cX11_meet 24 = .ok (.invokevirtual 249, 3) := by decide +kernel
theorem dX11_meet_27 : decode cX11_meet 27 = .ok (.istore_n 3, 1) := by decide +kernel
theorem dX11_meet_28 : decode cX11_meet 28 = .ok (.aload_n 0, 1) := by decide +kernel
theorem dX11_meet_29 : decode cX11_meet 29 = .ok (.getfield 42, 3) := by decide +kernel
theorem dX11_meet_32 : decode cX11_meet 32 = .ok (.aload_n 0, 1) := by decide +kernel
theorem dX11_meet_33 : decode cX11_meet 33 = .ok (.getfield 38, 3) := by decide +kernel
theorem dX11_meet_36 : decode cX11_meet 36 = .ok (.invokevirtual 224, 3) := by decide +kernel
theorem dX11_meet_39 : decode cX11_meet 39 = .ok (.iconst 1, 1) := by decide +kernel
theorem dX11_meet_40 : decode cX11_meet 40 = .ok (.istore 4, 2) := by decide +kernel
theorem dX11_meet_42 : decode cX11_meet 42 = .ok (.iload 4, 2) := by decide +kernel
theorem dX11_meet_44 : decode cX11_meet 44 = .ok (.iload_n 3, 1) := by decide +kernel
theorem dX11_meet_45 : decode cX11_meet 45 = .ok (.if_icmp .gt 50, 3) := by decide +kernel
theorem dX11_meet_48 : decode cX11_meet 48 = .ok (.aload_n 0, 1) := by decide +kernel
theorem dX11_meet_49 : decode cX11_meet 49 = .ok (.getfield 52, 3) := by decide +kernel
theorem dX11_meet_52 : decode cX11_meet 52 = .ok (.aload_n 0, 1) := by decide +kernel
theorem dX11_meet_53 : decode cX11_meet 53 = .ok (.getfield 28, 3) := by decide +kernel
theorem dX11_meet_56 : decode cX11_meet 56 = .ok (.aload_n 0, 1) := by decide +kernel
theorem dX11_meet_57 : decode cX11_meet 57 = .ok (.getfield 42, 3) := by decide +kernel
theorem dX11_meet_60 : decode cX11_meet 60 = .ok (.invokevirtual 232, 3) := by decide +kernel
theorem dX11_meet_63 : decode cX11_meet 63 = .ok (.aload_n 0, 1) := by decide +kernel
theorem dX11_meet_64 : decode cX11_meet 64 = .ok (.getfield 52, 3) := by decide +kernel
theorem dX11_meet_67 : decode cX11_meet 67 = .ok (.iload_n 1, 1) := by decide +kernel
theorem dX11_meet_68 : decode cX11_meet 68 = .ok (.iload_n 2, 1) := by decide +kernel
theorem dX11_meet_69 : decode cX11_meet 69 = .ok (.invokevirtual 256, 3) := by decide +kernel
theorem dX11_meet_72 : decode cX11_meet 72 = .ok (.ifCond .eq 6, 3) := by decide +kernel
theorem dX11_meet_75 : decode cX11_meet 75 = .ok (.iload 4, 2) := by decide +kernel
theorem dX11_meet_77 : decode cX11_meet 77 = .ok (.ireturn, 1) := by decide +kernel
theorem dX11_meet_78 : decode cX11_meet 78 = .ok (.aload_n 0, 1) := by decide +kernel
theorem dX11_meet_79 : decode cX11_meet 79 = .ok (.getfield 42, 3) := by decide +kernel
theorem dX11_meet_82 : decode cX11_meet 82 = .ok (.aload_n 0, 1) := by decide +kernel
theorem dX11_meet_83 : decode cX11_meet 83 = .ok (.getfield 52, 3) := by decide +kernel
theorem dX11_meet_86 : decode cX11_meet 86 = .ok (.invokevirtual 252, 3) := by decide +kernel
theorem dX11_meet_89 : decode cX11_meet 89 = .ok (.iinc 4 1, 3) := by decide +kernel
theorem dX11_meet_92 : decode cX11_meet 92 = .ok (.goto (-50), 3) := by decide +kernel
theorem dX11_meet_95 : decode cX11_meet 95 = .ok (.iconst (-1), 1) := by decide +kernel
theorem dX11_meet_96 : decode cX11_meet 96 = .ok (.ireturn, 1) := by decide +kernel
theorem dX11_round_0 : decode cX11_round 0 = .ok (.aload_n 0, 1) := by decide +kernel
theorem dX11_round_1 : decode cX11_round 1 = .ok (.invokevirtual 249, 3) := by decide +kernel
theorem dX11_round_4 : decode cX11_round 4 = .ok (.istore_n 1, 1) := by decide +kernel
theorem dX11_round_5 : decode cX11_round 5 = .ok (.aload_n 0, 1) := by decide +kernel
theorem dX11_round_6 : decode cX11_round 6 = .ok (.getfield 42, 3) := by decide +kernel
theorem dX11_round_9 : decode cX11_round 9 = .ok (.aload_n 0, 1) := by decide +kernel
theorem dX11_round_10 : decode cX11_round 10 = .ok (.getfield 38, 3) := by decide +kernel
theorem dX11_round_13 : decode cX11_round 13 = .ok (.invokevirtual 224, 3) := by decide +kernel
theorem dX11_round_16 : decode cX11_round 16 = .ok (.iconst 1, 1) := by decide +kernel
theorem dX11_round_17 : decode cX11_round 17 = .ok (.istore_n 2, 1) := by decide +kernel
theorem dX11_round_18 : decode cX11_round 18 = .ok (.iload_n 2, 1) := by decide +kernel
theorem dX11_round_19 : decode cX11_round 19 = .ok (.iload_n 1, 1) := by decide +kernel
theorem dX11_round_20 : decode cX11_round 20 = .ok (.if_icmp .gt 58, 3) := by decide +kernel
theorem dX11_round_23 : decode cX11_round 23 = .ok (.aload_n 0, 1) := by decide +kernel
theorem dX11_round_24 : decode cX11_round 24 = .ok (.getfield 52, 3) := by decide +kernel
theorem dX11_round_27 : decode cX11_round 27 = .ok (.aload_n 0, 1) := by decide +kernel
theorem dX11_round_28 : decode cX11_round 28 = .ok (.getfield 28, 3) := by decide +kernel
theorem dX11_round_31 : decode cX11_round 31 = .ok (.aload_n 0, 1) := by decide +kernel
theorem dX11_round_32 : decode cX11_round 32 = .ok (.getfield 42, 3) := by decide +kernel
theorem dX11_round_35 : decode cX11_round 35 = .ok (.invokevirtual 232, 3) := by decide +kernel
theorem dX11_round_38 : decode cX11_round 38 = .ok (.aload_n 0, 1) := by decide +kernel
theorem dX11_round_39 : decode cX11_round 39 = .ok (.getfield 42, 3) := by decide +kernel
theorem dX11_round_42 : decode cX11_round 42 = .ok (.aload_n 0, 1) := by decide +kernel
theorem dX11_round_43 : decode cX11_round 43 = .ok (.getfield 52, 3) := by decide +kernel
theorem dX11_round_46 : decode cX11_round 46 = .ok (.invokevirtual 252, 3) := by decide +kernel
theorem dX11_round_49 : decode cX11_round 49 = .ok (.aload_n 0, 1) := by decide +kernel
theorem dX11_round_50 : decode cX11_round 50 = .ok (.getfield 42, 3) := by decide +kernel
theorem dX11_round_53 : decode cX11_round 53 = .ok (.aload_n 0, 1) := by decide +kernel
theorem dX11_round_54 : decode cX11_round 54 = .ok (.getfield 38, 3) := by decide +kernel
theorem dX11_round_57 : decode cX11_round 57 = .ok (.aload_n 0, 1) := by decide +kernel
theorem dX11_round_58 : decode cX11_round 58 = .ok (.getfield 28, 3) := by decide +kernel
theorem dX11_round_61 : decode cX11_round 61 = .ok (.getfield 129, 3) := by decide +kernel
theorem dX11_round_64 : decode cX11_round 64 = .ok (.invokevirtual 260, 3) := by decide +kernel
theorem dX11_round_67 : decode cX11_round 67 = .ok (.ifCond .eq 5, 3) := by decide +kernel
theorem dX11_round_70 : decode cX11_round 70 = .ok (.iload_n 2, 1) := by decide +kernel
theorem dX11_round_71 : decode cX11_round 71 = .ok (.ireturn, 1) := by decide +kernel
theorem dX11_round_72 : decode cX11_round 72 = .ok (.iinc 2 1, 3) := by decide +kernel
theorem dX11_round_75 : decode cX11_round 75 = .ok (.goto (-57), 3) := by decide +kernel
theorem dX11_round_78 : decode cX11_round 78 = .ok (.iconst (-1), 1) := by decide +kernel
theorem dX11_round_79 : decode cX11_round 79 = .ok (.ireturn, 1) := by decide +kernel
theorem dX11_see_0 : decode cX11_see 0 = .ok (.aload_n 0, 1) := by decide +kernel
theorem dX11_see_1 : decode cX11_see 1 = .ok (.getfield 72, 3) := by decide +kernel
theorem dX11_see_4 : decode cX11_see 4 = .ok (.aload_n 0, 1) := by decide +kernel
theorem dX11_see_5 : decode cX11_see 5 = .ok (.getfield 10, 3) := by decide +kernel
theorem dX11_see_8 : decode cX11_see 8 = .ok (.aload_n 0, 1) := by decide +kernel
theorem dX11_see_9 : decode cX11_see 9 = .ok (.getfield 28, 3) := by decide +kernel
theorem dX11_see_12 : decode cX11_see 12 = .ok (.invokevirtual 264, 3) := by decide +kernel
theorem dX11_see_15 : decode cX11_see 15 = .ok (.istore_n 1, 1) := by decide +kernel
theorem dX11_see_16 : decode cX11_see 16 = .ok (.aload_n 0, 1) := by decide +kernel
theorem dX11_see_17 : decode cX11_see 17 = .ok (.getfield 10, 3) := by decide +kernel
theorem dX11_see_20 : decode cX11_see 20 = .ok (.iconst 0, 1) := by decide +kernel
theorem dX11_see_21 : decode cX11_see 21 = .ok (.putfield 84, 3) := by decide +kernel
theorem dX11_see_24 : decode cX11_see 24 = .ok (.iload_n 1, 1) := by decide +kernel
theorem dX11_see_25 : decode cX11_see 25 = .ok (.ifCond .eq 13, 3) := by decide +kernel
theorem dX11_see_28 : decode cX11_see 28 = .ok (.aload_n 0, 1) := by decide +kernel
theorem dX11_see_29 : decode cX11_see 29 = .ok (.getfield 72, 3) := by decide +kernel
theorem dX11_see_32 : decode cX11_see 32 = .ok (.getfield 110, 3) := by decide +kernel
theorem dX11_see_35 : decode cX11_see 35 = .ok (.goto 8, 3) := by decide +kernel
theorem dX11_see_38 : decode cX11_see 38 = .ok (.aload_n 0, 1) := by decide +kernel
theorem dX11_see_39 : decode cX11_see 39 = .ok (.iconst 5, 1) := by decide +kernel
theorem dX11_see_40 : decode cX11_see 40 = .ok (.invokevirtual 87, 3) := by decide +kernel
theorem dX11_see_43 : decode cX11_see 43 = .ok (.ireturn, 1) := by decide +kernel
theorem dX11_findBeginnings_0 : decode cX11_findBeginnings 0 = .ok (.aload_n 0, 1) := by decide +kernel
theorem dX11_findBeginnings_1 : decode cX11_findBeginnings 1 = .ok (.getfield 72, 3) := by decide +kernel
theorem dX11_findBeginnings_4 : decode cX11_findBeginnings 4 = .ok (.invokevirtual 327, 3) := by decide +kernel
theorem dX11_findBeginnings_7 : decode cX11_findBeginnings 7 = .ok (.aload_n 0, 1) := by decide +kernel
theorem dX11_findBeginnings_8 : decode cX11_findBeginnings 8 = .ok (.getfield 42, 3) := by decide +kernel
theorem dX11_findBeginnings_11 : decode cX11_findBeginnings 11 = .ok (.aload_n 0, 1) := by decide +kernel
theorem dX11_findBeginnings_12 : decode cX11_findBeginnings 12 = .ok (.getfield 38, 3) := by decide +kernel
theorem dX11_findBeginnings_15 : decode cX11_findBeginnings 15 = .ok (.invokevirtual 224, 3) := by decide +kernel
theorem dX11_findBeginnings_18 : decode cX11_findBeginnings 18 = .ok (.iconst 0, 1) := by decide +kernel
theorem dX11_findBeginnings_19 : decode cX11_findBeginnings 19 = .ok (.istore_n 2, 1) := by decide +kernel
theorem dX11_findBeginnings_20 : decode cX11_findBeginnings 20 = .ok (.iload_n 2, 1) := by decide +kernel
theorem dX11_findBeginnings_21 : decode cX11_findBeginnings 21 = .ok (.aload_n 0, 1) := by decide +kernel
theorem dX11_findBeginnings_22 : decode cX11_findBeginnings 22 = .ok (.getfield 28, 3) := by decide +kernel
theorem dX11_findBeginnings_25 : decode cX11_findBeginnings 25 = .ok (.getfield 123, 3) := by decide +kernel
theorem dX11_findBeginnings_28 : decode cX11_findBeginnings 28 = .ok (.if_icmp .ge 46, 3) := by decide +kernel
theorem dX11_findBeginnings_31 : decode cX11_findBeginnings 31 = .ok (.aload_n 0, 1) := by decide +kernel
theorem dX11_findBeginnings_32 : decode cX11_findBeginnings 32 = .ok (.getfield 42, 3) := by decide +kernel
theorem dX11_findBeginnings_35 : decode cX11_findBeginnings 35 = .ok (.getfield 186, 3) := by decide +kernel
theorem dX11_findBeginnings_38 : decode cX11_findBeginnings 38 = .ok (.iload_n 1, 1) := by decide +kernel
theorem dX11_findBeginnings_39 : decode cX11_findBeginnings 39 = .ok (.iload_n 2, 1) := by decide +kernel
theorem dX11_findBeginnings_40 : decode cX11_findBeginnings 40 = .ok (.iastore, 1) := by decide +kernel
theorem dX11_findBeginnings_41 : decode cX11_findBeginnings 41 = .ok (.aload_n 0, 1) := by decide +kernel
theorem dX11_findBeginnings_42 : decode cX11_findBeginnings 42 = .ok (.getfield 52, 3) := by decide +kernel
theorem dX11_findBeginnings_45 : decode cX11_findBeginnings 45 = .ok (.aload_n 0, 1) := by decide +kernel
theorem dX11_findBeginnings_46 : decode cX11_findBeginnings 46 = .ok (.getfield 28, 3) := by decide +kernel
theorem dX11_findBeginnings_49 : decode cX11_findBeginnings 49 = .ok (.aload_n 0, 1) := by decide +kernel
theorem dX11_findBeginnings_50 : decode cX11_findBeginnings 50 = .ok (.getfield 42, 3) := by decide +kernel
theorem dX11_findBeginnings_53 : decode cX11_findBeginnings 53 = .ok (.invokevirtual 232, 3) := by decide +kernel
theorem dX11_findBeginnings_56 : decode cX11_findBeginnings 56 = .ok (.aload_n 0, 1) := by decide +kernel
theorem dX11_findBeginnings_57 : decode cX11_findBeginnings 57 = .ok (.getfield 72, 3) := by decide +kernel
theorem dX11_findBeginnings_60 : decode cX11_findBeginnings 60 = .ok (.iload_n 2, 1) := by decide +kernel
theorem dX11_findBeginnings_61 : decode cX11_findBeginnings 61 = .ok (.aload_n 0, 1) := by decide +kernel
theorem dX11_findBeginnings_62 : decode cX11_findBeginnings 62 = .ok (.getfield 52, 3) := by decide +kernel
theorem dX11_findBeginnings_65 : decode cX11_findBeginnings 65 = .ok (.invokevirtual 330, 3) := by decide +kernel
theorem dX11_findBeginnings_68 : decode cX11_findBeginnings 68 = .ok (.iinc 2 1, 3) := by decide +kernel
theorem dX11_findBeginnings_71 : decode cX11_findBeginnings 71 = .ok (.goto (-51), 3) := by decide +kernel
theorem dX11_findBeginnings_74 : decode cX11_findBeginnings 74 = .ok (.aload_n 0, 1) := by decide +kernel
theorem dX11_findBeginnings_75 : decode cX11_findBeginnings 75 = .ok (.getfield 72, 3) := by decide +kernel
theorem dX11_findBeginnings_78 : decode cX11_findBeginnings 78 = .ok (.aload_n 0, 1) := by decide +kernel
theorem dX11_findBeginnings_79 : decode cX11_findBeginnings 79 = .ok (.getfield 28, 3) := by decide +kernel
theorem dX11_findBeginnings_82 : decode cX11_findBeginnings 82 = .ok (.getfield 123, 3) := by decide +kernel
theorem dX11_findBeginnings_85 : decode cX11_findBeginnings 85 = .ok (.invokevirtual 334, 3) := by decide +kernel
theorem dX11_findBeginnings_88 : decode cX11_findBeginnings 88 = .ok (.return_, 1) := by decide +kernel
theorem dX11_began_0 : decode cX11_began 0 = .ok (.aload_n 0, 1) := by decide +kernel
theorem dX11_began_1 : decode cX11_began 1 = .ok (.iload_n 1, 1) := by decide +kernel
theorem dX11_began_2 : decode cX11_began 2 = .ok (.invokevirtual 177, 3) := by decide +kernel
theorem dX11_began_5 : decode cX11_began 5 = .ok (.ifCond .eq 12, 3) := by decide +kernel
theorem dX11_began_8 : decode cX11_began 8 = .ok (.iload_n 2, 1) := by decide +kernel
theorem dX11_began_9 : decode cX11_began 9 = .ok (.ifCond .lt 8, 3) := by decide +kernel
theorem dX11_began_12 : decode cX11_began 12 = .ok (.iload_n 2, 1) := by decide +kernel
theorem dX11_began_13 : decode cX11_began 13 = .ok (.iconst 3, 1) := by decide +kernel
theorem dX11_began_14 : decode cX11_began 14 = .ok (.if_icmp .le 5, 3) := by decide +kernel
theorem dX11_began_17 : decode cX11_began 17 = .ok (.iconst (-1), 1) := by decide +kernel
theorem dX11_began_18 : decode cX11_began 18 = .ok (.ireturn, 1) := by decide +kernel
theorem dX11_began_19 : decode cX11_began 19 = .ok (.aload_n 0, 1) := by decide +kernel
theorem dX11_began_20 : decode cX11_began 20 = .ok (.iload_n 1, 1) := by decide +kernel
theorem dX11_began_21 : decode cX11_began 21 = .ok (.invokevirtual 268, 3) := by decide +kernel
theorem dX11_began_24 : decode cX11_began 24 = .ok (.iload_n 2, 1) := by decide +kernel
theorem dX11_began_25 : decode cX11_began 25 = .ok (.tableswitch 51 0 2 #[27, 35, 43], 27) := by decide +kernel
theorem dX11_began_52 : decode cX11_began 52 = .ok (.aload_n 0, 1) := by decide +kernel
theorem dX11_began_53 : decode cX11_began 53 = .ok (.getfield 72, 3) := by decide +kernel
theorem dX11_began_56 : decode cX11_began 56 = .ok (.getfield 271, 3) := by decide +kernel
theorem dX11_began_59 : decode cX11_began 59 = .ok (.ireturn, 1) := by decide +kernel
theorem dX11_began_60 : decode cX11_began 60 = .ok (.aload_n 0, 1) := by decide +kernel
theorem dX11_began_61 : decode cX11_began 61 = .ok (.getfield 72, 3) := by decide +kernel
theorem dX11_began_64 : decode cX11_began 64 = .ok (.getfield 274, 3) := by decide +kernel
theorem dX11_began_67 : decode cX11_began 67 = .ok (.ireturn, 1) := by decide +kernel
theorem dX11_began_68 : decode cX11_began 68 = .ok (.aload_n 0, 1) := by decide +kernel
theorem dX11_began_69 : decode cX11_began 69 = .ok (.getfield 72, 3) := by decide +kernel
theorem dX11_began_72 : decode cX11_began 72 = .ok (.getfield 277, 3) := by decide +kernel
theorem dX11_began_75 : decode cX11_began 75 = .ok (.ireturn, 1) := by decide +kernel
theorem dX11_began_76 : decode cX11_began 76 = .ok (.aload_n 0, 1) := by decide +kernel
theorem dX11_began_77 : decode cX11_began 77 = .ok (.getfield 72, 3) := by decide +kernel
theorem dX11_began_80 : decode cX11_began 80 = .ok (.getfield 280, 3) := by decide +kernel
theorem dX11_began_83 : decode cX11_began 83 = .ok (.ireturn, 1) := by decide +kernel
theorem dX11_pass_0 : decode cX11_pass 0 = .ok (.aload_n 0, 1) := by decide +kernel
theorem dX11_pass_1 : decode cX11_pass 1 = .ok (.getfield 58, 3) := by decide +kernel
theorem dX11_pass_4 : decode cX11_pass 4 = .ok (.aload_n 0, 1) := by decide +kernel
theorem dX11_pass_5 : decode cX11_pass 5 = .ok (.getfield 38, 3) := by decide +kernel
theorem dX11_pass_8 : decode cX11_pass 8 = .ok (.aload_n 1, 1) := by decide +kernel
theorem dX11_pass_9 : decode cX11_pass 9 = .ok (.aload_n 0, 1) := by decide +kernel
theorem dX11_pass_10 : decode cX11_pass 10 = .ok (.getfield 38, 3) := by decide +kernel
theorem dX11_pass_13 : decode cX11_pass 13 = .ok (.getfield 135, 3) := by decide +kernel
theorem dX11_pass_16 : decode cX11_pass 16 = .ok (.invokevirtual 156, 3) := by decide +kernel
theorem dX11_pass_19 : decode cX11_pass 19 = .ok (.invokevirtual 337, 3) := by decide +kernel
theorem dX11_pass_22 : decode cX11_pass 22 = .ok (.aload_n 0, 1) := by decide +kernel
theorem dX11_pass_23 : decode cX11_pass 23 = .ok (.getfield 38, 3) := by decide +kernel
theorem dX11_pass_26 : decode cX11_pass 26 = .ok (.aload_n 1, 1) := by decide +kernel
theorem dX11_pass_27 : decode cX11_pass 27 = .ok (.invokevirtual 252, 3) := by decide +kernel
theorem dX11_pass_30 : decode cX11_pass 30 = .ok (.aload_n 0, 1) := by decide +kernel
theorem dX11_pass_31 : decode cX11_pass 31 = .ok (.iconst 0, 1) := by decide +kernel
theorem dX11_pass_32 : decode cX11_pass 32 = .ok (.putfield 113, 3) := by decide +kernel
theorem dX11_pass_35 : decode cX11_pass 35 = .ok (.return_, 1) := by decide +kernel
theorem dX11_days_0 : decode cX11_days 0 = .ok (.iload_n 1, 1) := by decide +kernel
theorem dX11_days_1 : decode cX11_days 1 = .ok (.iconst 1, 1) := by decide +kernel
theorem dX11_days_2 : decode cX11_days 2 = .ok (.if_icmp .lt 11, 3) := by decide +kernel
theorem dX11_days_5 : decode cX11_days 5 = .ok (.iload_n 1, 1) := by decide +kernel
theorem dX11_days_6 : decode cX11_days 6 = .ok (.aload_n 0, 1) := by decide +kernel
theorem dX11_days_7 : decode cX11_days 7 = .ok (.invokevirtual 249, 3) := by decide +kernel
theorem dX11_days_10 : decode cX11_days 10 = .ok (.if_icmp .le 9, 3) := by decide +kernel
theorem dX11_days_13 : decode cX11_days 13 = .ok (.aload_n 0, 1) := by decide +kernel
theorem dX11_days_14 : decode cX11_days 14 = .ok (.iconst 2, 1) := by decide +kernel
theorem dX11_days_15 : decode cX11_days 15 = .ok (.invokevirtual 87, 3) := by decide +kernel
theorem dX11_days_18 : decode cX11_days 18 = .ok (.ireturn, 1) := by decide +kernel
theorem dX11_days_19 : decode cX11_days 19 = .ok (.aload_n 0, 1) := by decide +kernel
theorem dX11_days_20 : decode cX11_days 20 = .ok (.getfield 58, 3) := by decide +kernel
theorem dX11_days_23 : decode cX11_days 23 = .ok (.aload_n 0, 1) := by decide +kernel
theorem dX11_days_24 : decode cX11_days 24 = .ok (.getfield 38, 3) := by decide +kernel
theorem dX11_days_27 : decode cX11_days 27 = .ok (.invokevirtual 283, 3) := by decide +kernel
theorem dX11_days_30 : decode cX11_days 30 = .ok (.iconst 0, 1) := by decide +kernel
theorem dX11_days_31 : decode cX11_days 31 = .ok (.istore_n 2, 1) := by decide +kernel
theorem dX11_days_32 : decode cX11_days 32 = .ok (.iconst 0, 1) := by decide +kernel
theorem dX11_days_33 : decode cX11_days 33 = .ok (.istore_n 3, 1) := by decide +kernel
theorem dX11_days_34 : decode cX11_days 34 = .ok (.iload_n 3, 1) := by decide +kernel
theorem dX11_days_35 : decode cX11_days 35 = .ok (.iload_n 1, 1) := by decide +kernel
theorem dX11_days_36 : decode cX11_days 36 = .ok (.if_icmp .ge 44, 3) := by decide +kernel
theorem dX11_days_39 : decode cX11_days 39 = .ok (.aload_n 0, 1) := by decide +kernel
theorem dX11_days_40 : decode cX11_days 40 = .ok (.invokevirtual 152, 3) := by decide +kernel
theorem dX11_days_43 : decode cX11_days 43 = .ok (.astore 4, 2) := by decide +kernel
theorem dX11_days_45 : decode cX11_days 45 = .ok (.iload_n 2, 1) := by decide +kernel
theorem dX11_days_46 : decode cX11_days 46 = .ok (.aload 4, 2) := by decide +kernel
theorem dX11_days_48 : decode cX11_days 48 = .ok (.aload_n 0, 1) := by decide +kernel
theorem dX11_days_49 : decode cX11_days 49 = .ok (.getfield 38, 3) := by decide +kernel
theorem dX11_days_52 : decode cX11_days 52 = .ok (.getfield 135, 3) := by decide +kernel
theorem dX11_days_55 : decode cX11_days 55 = .ok (.invokevirtual 217, 3) := by decide +kernel
theorem dX11_days_58 : decode cX11_days 58 = .ok (.ifCond .eq 7, 3) := by decide +kernel
theorem dX11_days_61 : decode cX11_days 61 = .ok (.iconst 1, 1) := by decide +kernel
theorem dX11_days_62 : decode cX11_days 62 = .ok (.goto 4, 3) := by decide +kernel
theorem dX11_days_65 : decode cX11_days 65 = .ok (.iconst 0, 1) := by decide +kernel
theorem dX11_days_66 : decode cX11_days 66 = .ok (.iadd, 1) := by decide +kernel
theorem dX11_days_67 : decode cX11_days 67 = .ok (.istore_n 2, 1) := by decide +kernel
theorem dX11_days_68 : decode cX11_days 68 = .ok (.aload_n 0, 1) := by decide +kernel
theorem dX11_days_69 : decode cX11_days 69 = .ok (.aload 4, 2) := by decide +kernel
theorem dX11_days_71 : decode cX11_days 71 = .ok (.invokevirtual 286, 3) := by decide +kernel
theorem dX11_days_74 : decode cX11_days 74 = .ok (.iinc 3 1, 3) := by decide +kernel
theorem dX11_days_77 : decode cX11_days 77 = .ok (.goto (-43), 3) := by decide +kernel
theorem dX11_days_80 : decode cX11_days 80 = .ok (.iload_n 2, 1) := by decide +kernel
theorem dX11_days_81 : decode cX11_days 81 = .ok (.ireturn, 1) := by decide +kernel
theorem dX11_draw_0 : decode cX11_draw 0 = .ok (.aload_n 0, 1) := by decide +kernel
theorem dX11_draw_1 : decode cX11_draw 1 = .ok (.ldc2_w 347, 3) := by decide +kernel
theorem dX11_draw_4 : decode cX11_draw 4 = .ok (.aload_n 0, 1) := by decide +kernel
theorem dX11_draw_5 : decode cX11_draw 5 = .ok (.getfield 80, 3) := by decide +kernel
theorem dX11_draw_8 : decode cX11_draw 8 = .ok (.i2l, 1) := by decide +kernel
theorem dX11_draw_9 : decode cX11_draw 9 = .ok (.lmul, 1) := by decide +kernel
theorem dX11_draw_10 : decode cX11_draw 10 = .ok (.ldc2_w 349, 3) := by decide +kernel
theorem dX11_draw_13 : decode cX11_draw 13 = .ok (.ladd, 1) := by decide +kernel
theorem dX11_draw_14 : decode cX11_draw 14 = .ok (.ldc2_w 351, 3) := by decide +kernel
theorem dX11_draw_17 : decode cX11_draw 17 = .ok (.land, 1) := by decide +kernel
theorem dX11_draw_18 : decode cX11_draw 18 = .ok (.l2i, 1) := by decide +kernel
theorem dX11_draw_19 : decode cX11_draw 19 = .ok (.putfield 80, 3) := by decide +kernel
theorem dX11_draw_22 : decode cX11_draw 22 = .ok (.iload_n 1, 1) := by decide +kernel
theorem dX11_draw_23 : decode cX11_draw 23 = .ok (.ifCond .le 15, 3) := by decide +kernel
theorem dX11_draw_26 : decode cX11_draw 26 = .ok (.aload_n 0, 1) := by decide +kernel
theorem dX11_draw_27 : decode cX11_draw 27 = .ok (.getfield 80, 3) := by decide +kernel
theorem dX11_draw_30 : decode cX11_draw 30 = .ok (.bipush 64, 2) := by decide +kernel
theorem dX11_draw_32 : decode cX11_draw 32 = .ok (.idiv, 1) := by decide +kernel
theorem dX11_draw_33 : decode cX11_draw 33 = .ok (.iload_n 1, 1) := by decide +kernel
theorem dX11_draw_34 : decode cX11_draw 34 = .ok (.irem, 1) := by decide +kernel
theorem dX11_draw_35 : decode cX11_draw 35 = .ok (.goto 4, 3) := by decide +kernel
theorem dX11_draw_38 : decode cX11_draw 38 = .ok (.iconst 0, 1) := by decide +kernel
theorem dX11_draw_39 : decode cX11_draw 39 = .ok (.ireturn, 1) := by decide +kernel
theorem dX11_rainCuts_0 : decode cX11_rainCuts 0 = .ok (.aload_n 0, 1) := by decide +kernel
theorem dX11_rainCuts_1 : decode cX11_rainCuts 1 = .ok (.bipush 100, 2) := by decide +kernel
theorem dX11_rainCuts_3 : decode cX11_rainCuts 3 = .ok (.invokevirtual 341, 3) := by decide +kernel
theorem dX11_rainCuts_6 : decode cX11_rainCuts 6 = .ok (.aload_n 0, 1) := by decide +kernel
theorem dX11_rainCuts_7 : decode cX11_rainCuts 7 = .ok (.getfield 28, 3) := by decide +kernel
theorem dX11_rainCuts_10 : decode cX11_rainCuts 10 = .ok (.getfield 344, 3) := by decide +kernel
theorem dX11_rainCuts_13 : decode cX11_rainCuts 13 = .ok (.if_icmp .ge 7, 3) := by decide +kernel
theorem dX11_rainCuts_16 : decode cX11_rainCuts 16 = .ok (.iconst 1, 1) := by decide +kernel
theorem dX11_rainCuts_17 : decode cX11_rainCuts 17 = .ok (.goto 4, 3) := by decide +kernel
theorem dX11_rainCuts_20 : decode cX11_rainCuts 20 = .ok (.iconst 0, 1) := by decide +kernel
theorem dX11_rainCuts_21 : decode cX11_rainCuts 21 = .ok (.istore_n 1, 1) := by decide +kernel
theorem dX11_rainCuts_22 : decode cX11_rainCuts 22 = .ok (.aload_n 0, 1) := by decide +kernel
theorem dX11_rainCuts_23 : decode cX11_rainCuts 23 = .ok (.getfield 38, 3) := by decide +kernel
theorem dX11_rainCuts_26 : decode cX11_rainCuts 26 = .ok (.getfield 135, 3) := by decide +kernel
theorem dX11_rainCuts_29 : decode cX11_rainCuts 29 = .ok (.getfield 139, 3) := by decide +kernel
theorem dX11_rainCuts_32 : decode cX11_rainCuts 32 = .ok (.istore_n 2, 1) := by decide +kernel
theorem dX11_rainCuts_33 : decode cX11_rainCuts 33 = .ok (.iload_n 1, 1) := by decide +kernel
theorem dX11_rainCuts_34 : decode cX11_rainCuts 34 = .ok (.ifCond .eq 7, 3) := by decide +kernel
theorem dX11_rainCuts_37 : decode cX11_rainCuts 37 = .ok (.iload_n 2, 1) := by decide +kernel
theorem dX11_rainCuts_38 : decode cX11_rainCuts 38 = .ok (.ifCond .ne 5, 3) := by decide +kernel
theorem dX11_rainCuts_41 : decode cX11_rainCuts 41 = .ok (.iconst 0, 1) := by decide +kernel
theorem dX11_rainCuts_42 : decode cX11_rainCuts 42 = .ok (.ireturn, 1) := by decide +kernel
theorem dX11_rainCuts_43 : decode cX11_rainCuts 43 = .ok (.aload_n 0, 1) := by decide +kernel
theorem dX11_rainCuts_44 : decode cX11_rainCuts 44 = .ok (.getfield 38, 3) := by decide +kernel
theorem dX11_rainCuts_47 : decode cX11_rainCuts 47 = .ok (.getfield 135, 3) := by decide +kernel
theorem dX11_rainCuts_50 : decode cX11_rainCuts 50 = .ok (.aload_n 0, 1) := by decide +kernel
theorem dX11_rainCuts_51 : decode cX11_rainCuts 51 = .ok (.iload_n 2, 1) := by decide +kernel
theorem dX11_rainCuts_52 : decode cX11_rainCuts 52 = .ok (.invokevirtual 341, 3) := by decide +kernel
theorem dX11_rainCuts_55 : decode cX11_rainCuts 55 = .ok (.invokevirtual 299, 3) := by decide +kernel
theorem dX11_rainCuts_58 : decode cX11_rainCuts 58 = .ok (.aload_n 0, 1) := by decide +kernel
theorem dX11_rainCuts_59 : decode cX11_rainCuts 59 = .ok (.iconst 0, 1) := by decide +kernel
theorem dX11_rainCuts_60 : decode cX11_rainCuts 60 = .ok (.putfield 113, 3) := by decide +kernel
theorem dX11_rainCuts_63 : decode cX11_rainCuts 63 = .ok (.iconst 1, 1) := by decide +kernel
theorem dX11_rainCuts_64 : decode cX11_rainCuts 64 = .ok (.ireturn, 1) := by decide +kernel
set_option maxRecDepth 20000 in
theorem w_X11_far_J29 {Y : YT} {X : CX} (C : Cx Y X cX11_far 3 RX11 2) {Q : Int → Mem → Prop} (hR : Rt Y X (some .int) (PQi Y Q)) {s0 : Int}  {M : Mem}  (h : m_X11_far_J29  Q s0 M) : G Y X 3 29 [] ((vI s0) :: []) M := by
  unfold m_X11_far_J29 at h
  exact g_reti C hR dX11_far_29 h
set_option maxRecDepth 20000 in
theorem w_X11_far_J28 {Y : YT} {X : CX} (C : Cx Y X cX11_far 3 RX11 2) {Q : Int → Mem → Prop} (hR : Rt Y X (some .int) (PQi Y Q))   {M : Mem}  (h : m_X11_far_J28  Q  M) : G Y X 3 28 [] ([]) M := by
  unfold m_X11_far_J28 at h
  refine g_iconst C dX11_far_28 rfl ?_
  refine G.sub [] rfl ?_
  exact w_X11_far_J29 C hR  h
set_option maxRecDepth 20000 in
theorem t_X11_far {l : Launch} {Y : YT} (hY : YOK Y) {a0 : Int} {a1 : Int} {M : Mem} {Q : Int → Mem → Prop} (h : m_X11_far a0 a1 M Q) : Ctr l Y yX11_far cX11_far 3 (some .int) 2 [vR Y 0, vI a0, vI a1] M (PQi Y Q) := by
  unfold m_X11_far at h
  refine ctr_ofF hY (by decide +kernel) (Nat.le_of_ble_eq_true rfl) [(0, vR Y 0), (1, vI a0), (2, vI a1)] rfl (fun X hX C hR => ?_)
  refine g_aload_n (q := 0) C dX11_far_0 rfl rfl ?_
  refine g_iload_n (q := 1) C dX11_far_1 rfl rfl ?_
  refine g_cVi (As := [vI a0]) C clX11_167 clvX11_isPlace dX11_far_2 kd_0 rfl (Nat.le_of_ble_eq_true rfl) rfl (by decide) (t_X11_isPlace (Cx.ok C) h) (fun r2 M1 h => ?_)
  obtain ⟨g3, h⟩ := h
  obtain ⟨ht, hf⟩ := h
  refine g_if_eq (tgt := 28) C dX11_far_5 (by decide) g3 (fun c => ?_) (fun c => ?_)
  · have h := ht c
    refine G.sub [] rfl ?_
    exact w_X11_far_J28 C hR  h
  · have h := hf c
    refine g_aload_n (q := 0) C dX11_far_8 rfl rfl ?_
    refine g_iload_n (q := 2) C dX11_far_9 rfl rfl ?_
    refine g_cVi (As := [vI a1]) C clX11_167 clvX11_isPlace dX11_far_10 kd_0 rfl (Nat.le_of_ble_eq_true rfl) rfl (by decide) (t_X11_isPlace (Cx.ok C) h) (fun r5 M4 h => ?_)
    obtain ⟨g6, h⟩ := h
    obtain ⟨ht, hf⟩ := h
    refine g_if_eq (tgt := 28) C dX11_far_13 (by decide) g6 (fun c => ?_) (fun c => ?_)
    · have h := ht c
      refine G.sub [] rfl ?_
      exact w_X11_far_J28 C hR  h
    · have h := hf c
      refine g_aload_n (q := 0) C dX11_far_16 rfl rfl ?_
      obtain ⟨g7, h⟩ := h
      refine g_getM C fX11_28 dX11_far_17 kd_0 (kd_in g7 (by decide)).1 ?_
      refine g_iload_n (q := 1) C dX11_far_20 rfl rfl ?_
      refine g_iload_n (q := 2) C dX11_far_21 rfl rfl ?_
      refine g_cVi (As := [vI a0, vI a1]) C clX11_183 clvX8_roadsBetween dX11_far_22 g7 rfl (Nat.le_of_ble_eq_true rfl) rfl (by decide) (t_X8_roadsBetween (Cx.ok C) h) (fun r9 M8 h => ?_)
      refine g_goto (tgt := 29) C dX11_far_25 (by decide) ?_
      refine G.sub [] rfl ?_
      exact w_X11_far_J29 C hR  h
set_option maxRecDepth 20000 in
theorem w_X11_person_J72 {Y : YT} {X : CX} (C : Cx Y X cX11_person 3 RX11 2) {Q : Int → Mem → Prop} (hR : Rt Y X (some .int) (PQi Y Q)) {s0 : Int}  {M : Mem}  (h : m_X11_person_J72  Q s0 M) : G Y X 3 72 [] ((vI s0) :: []) M := by
  unfold m_X11_person_J72 at h
  exact g_reti C hR dX11_person_72 h
set_option maxRecDepth 20000 in
theorem t_X11_person {l : Launch} {Y : YT} (hY : YOK Y) {a0 : Int} {a1 : Int} {M : Mem} {Q : Int → Mem → Prop} (h : m_X11_person a0 a1 M Q) : Ctr l Y yX11_person cX11_person 3 (some .int) 2 [vR Y 0, vI a0, vI a1] M (PQi Y Q) := by
  unfold m_X11_person at h
  refine ctr_ofF hY (by decide +kernel) (Nat.le_of_ble_eq_true rfl) [(0, vR Y 0), (1, vI a0), (2, vI a1)] rfl (fun X hX C hR => ?_)
  refine g_aload_n (q := 0) C dX11_person_0 rfl rfl ?_
  refine g_iload_n (q := 1) C dX11_person_1 rfl rfl ?_
  refine g_cVi (As := [vI a0]) C clX11_177 clvX11_isPerson dX11_person_2 kd_0 rfl (Nat.le_of_ble_eq_true rfl) rfl (by decide) (t_X11_isPerson (Cx.ok C) h) (fun r2 M1 h => ?_)
  obtain ⟨g3, h⟩ := h
  obtain ⟨ht, hf⟩ := h
  refine g_if_ne (tgt := 10) C dX11_person_5 (by decide) g3 (fun c => ?_) (fun c => ?_)
  · have h := hf c
    refine g_iload_n (q := 2) C dX11_person_10 rfl rfl ?_
    obtain ⟨g4, h⟩ := h
    refine G.nmI (x := a1) rfl ?_
    obtain ⟨c0, c1, c2, c3⟩ := h
    rcases (show (a1 = 0) ∨ (a1 = 1) ∨ (a1 = 2) ∨ (a1 < 0 ∨ 2 < a1) by omega) with q | q | q | q
    · have h := c0 q
      refine g_tswIn (off := 25) (tgt := 36) C dX11_person_11 g4 (by omega) (by omega) (by rw [q]; rfl) (by decide) ?_
      refine g_aload_n (q := 0) C dX11_person_36 rfl rfl ?_
      refine g_getS (v := 40) C fX11_38 dX11_person_37 kd_0 rfl ?_
      refine g_getS (v := 41) C fX11_186 dX11_person_40 kd_40 rfl ?_
      refine g_iload_n (q := 1) C dX11_person_43 rfl rfl ?_
      obtain ⟨g5, h⟩ := h
      refine g_iald C dX11_person_44 kd_41 ln_41 g5 ?_
      exact g_reti C hR dX11_person_45 h
    · have h := c1 q
      refine g_tswIn (off := 35) (tgt := 46) C dX11_person_11 g4 (by omega) (by omega) (by rw [q]; rfl) (by decide) ?_
      refine g_aload_n (q := 0) C dX11_person_46 rfl rfl ?_
      obtain ⟨g6, h⟩ := h
      refine g_getM C fX11_28 dX11_person_47 kd_0 (kd_in g6 (by decide)).1 ?_
      refine g_getS (v := (M1 0 2) + 6) C fX11_189 dX11_person_50 g6 rfl ?_
      refine g_iload_n (q := 1) C dX11_person_53 rfl rfl ?_
      obtain ⟨g7, h⟩ := h
      refine g_iald C dX11_person_54 (sub_8_8 g6).1 (sub_8_8 g6).2 g7 ?_
      exact g_reti C hR dX11_person_55 h
    · have h := c2 q
      refine g_tswIn (off := 45) (tgt := 56) C dX11_person_11 g4 (by omega) (by omega) (by rw [q]; rfl) (by decide) ?_
      refine g_aload_n (q := 0) C dX11_person_56 rfl rfl ?_
      refine g_getS (v := 40) C fX11_38 dX11_person_57 kd_0 rfl ?_
      refine g_iload_n (q := 1) C dX11_person_60 rfl rfl ?_
      refine g_cVi (As := [vI a0]) C clX11_192 clvX6_watches dX11_person_61 kd_40 rfl (Nat.le_of_ble_eq_true rfl) rfl (by decide) (t_X6_watches (Cx.ok C) h) (fun r9 M8 h => ?_)
      obtain ⟨g10, h⟩ := h
      obtain ⟨ht, hf⟩ := h
      refine g_if_eq (tgt := 71) C dX11_person_64 (by decide) g10 (fun c => ?_) (fun c => ?_)
      · have h := ht c
        refine g_iconst C dX11_person_71 rfl ?_
        refine G.sub [] rfl ?_
        exact w_X11_person_J72 C hR  h
      · have h := hf c
        refine g_iconst C dX11_person_67 rfl ?_
        refine g_goto (tgt := 72) C dX11_person_68 (by decide) ?_
        refine G.sub [] rfl ?_
        exact w_X11_person_J72 C hR  h
    · have h := c3 q
      refine g_tswOut (tgt := 73) C dX11_person_11 g4 q (by decide) ?_
      refine g_iconst C dX11_person_73 rfl ?_
      exact g_reti C hR dX11_person_74 h
  · have h := ht c
    refine g_iconst C dX11_person_8 rfl ?_
    exact g_reti C hR dX11_person_9 h
set_option maxRecDepth 20000 in
theorem w_X11_isFrame_J23 {Y : YT} {X : CX} (C : Cx Y X cX11_isFrame 2 RX11 1) {Q : Int → Mem → Prop} (hR : Rt Y X (some .boolean) (PQi Y Q)) {s0 : Int}  {M : Mem}  (h : m_X11_isFrame_J23  Q s0 M) : G Y X 2 23 [] ((vI s0) :: []) M := by
  unfold m_X11_isFrame_J23 at h
  obtain ⟨g1, h⟩ := h
  exact g_retz C hR dX11_isFrame_23 g1 h
set_option maxRecDepth 20000 in
theorem w_X11_isFrame_J22 {Y : YT} {X : CX} (C : Cx Y X cX11_isFrame 2 RX11 1) {Q : Int → Mem → Prop} (hR : Rt Y X (some .boolean) (PQi Y Q))   {M : Mem}  (h : m_X11_isFrame_J22  Q  M) : G Y X 2 22 [] ([]) M := by
  unfold m_X11_isFrame_J22 at h
  refine g_iconst C dX11_isFrame_22 rfl ?_
  refine G.sub [] rfl ?_
  exact w_X11_isFrame_J23 C hR  h
set_option maxRecDepth 20000 in
theorem t_X11_isFrame {l : Launch} {Y : YT} (hY : YOK Y) {a0 : Int} {M : Mem} {Q : Int → Mem → Prop} (h : m_X11_isFrame a0 M Q) : Ctr l Y yX11_isFrame cX11_isFrame 2 (some .boolean) 1 [vR Y 0, vI a0] M (PQi Y Q) := by
  unfold m_X11_isFrame at h
  refine ctr_ofF hY (by decide +kernel) (Nat.le_of_ble_eq_true rfl) [(0, vR Y 0), (1, vI a0)] rfl (fun X hX C hR => ?_)
  refine g_iload_n (q := 1) C dX11_isFrame_0 rfl rfl ?_
  obtain ⟨g2, h⟩ := h
  obtain ⟨ht, hf⟩ := h
  refine g_if_lt (tgt := 22) C dX11_isFrame_1 (by decide) g2 (fun c => ?_) (fun c => ?_)
  · have h := ht c
    refine G.sub [] rfl ?_
    exact w_X11_isFrame_J22 C hR  h
  · have h := hf c
    refine g_iload_n (q := 1) C dX11_isFrame_4 rfl rfl ?_
    refine g_aload_n (q := 0) C dX11_isFrame_5 rfl rfl ?_
    refine g_getS (v := 40) C fX11_38 dX11_isFrame_6 kd_0 rfl ?_
    refine g_getS (v := 42) C fX11_135 dX11_isFrame_9 kd_40 rfl ?_
    refine g_getI C fX11_139 (by decide) dX11_isFrame_12 kd_42 ?_
    obtain ⟨g3, h⟩ := h
    obtain ⟨g4, h⟩ := h
    obtain ⟨ht, hf⟩ := h
    refine g_icmp_ge (tgt := 22) C dX11_isFrame_15 (by decide) g3 g4 (fun c => ?_) (fun c => ?_)
    · have h := ht c
      refine G.sub [] rfl ?_
      exact w_X11_isFrame_J22 C hR  h
    · have h := hf c
      refine g_iconst C dX11_isFrame_18 rfl ?_
      refine g_goto (tgt := 23) C dX11_isFrame_19 (by decide) ?_
      refine G.sub [] rfl ?_
      exact w_X11_isFrame_J23 C hR  h
set_option maxRecDepth 20000 in
theorem w_X11_frame_J90 {Y : YT} {X : CX} (C : Cx Y X cX11_frame 4 RX11 8) {Q : Int → Mem → Prop} (hR : Rt Y X (some .int) (PQi Y Q)) {s0 : Int}  {M : Mem}  (h : m_X11_frame_J90  Q s0 M) : G Y X 4 90 [] ((vI s0) :: []) M := by
  unfold m_X11_frame_J90 at h
  exact g_reti C hR dX11_frame_90 h
set_option maxRecDepth 20000 in
theorem t_X11_frame {l : Launch} {Y : YT} (hY : YOK Y) {a0 : Int} {a1 : Int} {M : Mem} {Q : Int → Mem → Prop} (h : m_X11_frame a0 a1 M Q) : Ctr l Y yX11_frame cX11_frame 4 (some .int) 8 [vR Y 0, vI a0, vI a1] M (PQi Y Q) := by
  unfold m_X11_frame at h
  refine ctr_ofF hY (by decide +kernel) (Nat.le_of_ble_eq_true rfl) [(0, vR Y 0), (1, vI a0), (2, vI a1)] rfl (fun X hX C hR => ?_)
  refine g_aload_n (q := 0) C dX11_frame_0 rfl rfl ?_
  refine g_iload_n (q := 1) C dX11_frame_1 rfl rfl ?_
  refine g_cVi (As := [vI a0]) C clX11_195 clvX11_isFrame dX11_frame_2 kd_0 rfl (Nat.le_of_ble_eq_true rfl) rfl (by decide) (t_X11_isFrame (Cx.ok C) h) (fun r2 M1 h => ?_)
  obtain ⟨g3, h⟩ := h
  obtain ⟨ht, hf⟩ := h
  refine g_if_ne (tgt := 10) C dX11_frame_5 (by decide) g3 (fun c => ?_) (fun c => ?_)
  · have h := hf c
    refine g_aload_n (q := 0) C dX11_frame_10 rfl rfl ?_
    refine g_getS (v := 40) C fX11_38 dX11_frame_11 kd_0 rfl ?_
    refine g_getS (v := 42) C fX11_135 dX11_frame_14 kd_40 rfl ?_
    refine g_astore_n (lv' := [(3, vR Y 42), (0, vR Y 0), (1, vI a0), (2, vI a1)]) C dX11_frame_17 rfl (by decide) rfl ?_
    refine g_iload_n (q := 3) C dX11_frame_18 rfl rfl ?_
    obtain ⟨g4, h⟩ := h
    refine G.nmI (x := a1) rfl ?_
    obtain ⟨c0, c1, c2, c3, c4, c5⟩ := h
    rcases (show (a1 = 0) ∨ (a1 = 1) ∨ (a1 = 2) ∨ (a1 = 3) ∨ (a1 = 4) ∨ (a1 < 0 ∨ 4 < a1) by omega) with q | q | q | q | q | q
    · have h := c0 q
      refine g_tswIn (off := 33) (tgt := 52) C dX11_frame_19 g4 (by omega) (by omega) (by rw [q]; rfl) (by decide) ?_
      refine g_aload_n (q := 0) C dX11_frame_52 rfl rfl ?_
      refine g_getS (v := 43) C fX11_198 dX11_frame_53 kd_42 rfl ?_
      refine g_iload_n (q := 2) C dX11_frame_56 rfl rfl ?_
      obtain ⟨g5, h⟩ := h
      refine g_iald C dX11_frame_57 kd_43 ln_43 g5 ?_
      exact g_reti C hR dX11_frame_58 h
    · have h := c1 q
      refine g_tswIn (off := 40) (tgt := 59) C dX11_frame_19 g4 (by omega) (by omega) (by rw [q]; rfl) (by decide) ?_
      refine g_aload_n (q := 0) C dX11_frame_59 rfl rfl ?_
      refine g_getS (v := 44) C fX11_201 dX11_frame_60 kd_42 rfl ?_
      refine g_iload_n (q := 2) C dX11_frame_63 rfl rfl ?_
      obtain ⟨g6, h⟩ := h
      refine g_iald C dX11_frame_64 kd_44 ln_44 g6 ?_
      exact g_reti C hR dX11_frame_65 h
    · have h := c2 q
      refine g_tswIn (off := 47) (tgt := 66) C dX11_frame_19 g4 (by omega) (by omega) (by rw [q]; rfl) (by decide) ?_
      refine g_aload_n (q := 0) C dX11_frame_66 rfl rfl ?_
      refine g_getS (v := 45) C fX11_204 dX11_frame_67 kd_42 rfl ?_
      refine g_iload_n (q := 2) C dX11_frame_70 rfl rfl ?_
      obtain ⟨g7, h⟩ := h
      refine g_iald C dX11_frame_71 kd_45 ln_45 g7 ?_
      exact g_reti C hR dX11_frame_72 h
    · have h := c3 q
      refine g_tswIn (off := 54) (tgt := 73) C dX11_frame_19 g4 (by omega) (by omega) (by rw [q]; rfl) (by decide) ?_
      refine g_aload_n (q := 1) C dX11_frame_73 rfl rfl ?_
      refine g_cVr (As := []) C clX11_152 clvX11_thisDay dX11_frame_74 kd_0 rfl (Nat.le_of_ble_eq_true rfl) rfl (by decide) (t_X11_thisDay (Cx.ok C) h) (fun r9 M8 h => ?_)
      obtain ⟨hk_r9, h⟩ := h
      refine g_aload_n (q := 0) C dX11_frame_77 rfl rfl ?_
      refine g_iload_n (q := 2) C dX11_frame_78 rfl rfl ?_
      refine g_cVi (As := [vR Y 42, vI a0]) C clX11_207 clvX10_isTrue dX11_frame_79 hk_r9 rfl (Nat.le_of_ble_eq_true rfl) rfl (by decide) (t_X10_isTrue (Cx.ok C) h) (fun r11 M10 h => ?_)
      obtain ⟨g12, h⟩ := h
      obtain ⟨ht, hf⟩ := h
      refine g_if_eq (tgt := 89) C dX11_frame_82 (by decide) g12 (fun c => ?_) (fun c => ?_)
      · have h := ht c
        refine g_iconst C dX11_frame_89 rfl ?_
        refine G.sub [] rfl ?_
        exact w_X11_frame_J90 C hR  h
      · have h := hf c
        refine g_iconst C dX11_frame_85 rfl ?_
        refine g_goto (tgt := 90) C dX11_frame_86 (by decide) ?_
        refine G.sub [] rfl ?_
        exact w_X11_frame_J90 C hR  h
    · have h := c4 q
      refine g_tswIn (off := 72) (tgt := 91) C dX11_frame_19 g4 (by omega) (by omega) (by rw [q]; rfl) (by decide) ?_
      refine g_aload_n (q := 1) C dX11_frame_91 rfl rfl ?_
      refine g_cVr (As := []) C clX11_152 clvX11_thisDay dX11_frame_92 kd_0 rfl (Nat.le_of_ble_eq_true rfl) rfl (by decide) (t_X11_thisDay (Cx.ok C) h) (fun r14 M13 h => ?_)
      obtain ⟨hk_r14, h⟩ := h
      refine g_aload_n (q := 0) C dX11_frame_95 rfl rfl ?_
      refine g_getS (v := 44) C fX11_201 dX11_frame_96 kd_42 rfl ?_
      refine g_iload_n (q := 2) C dX11_frame_99 rfl rfl ?_
      obtain ⟨g15, h⟩ := h
      refine g_iald C dX11_frame_100 kd_44 ln_44 g15 ?_
      refine g_aload_n (q := 0) C dX11_frame_101 rfl rfl ?_
      refine g_getS (v := 43) C fX11_198 dX11_frame_102 kd_42 rfl ?_
      refine g_iload_n (q := 2) C dX11_frame_105 rfl rfl ?_
      obtain ⟨g16, h⟩ := h
      refine g_iald C dX11_frame_106 kd_43 ln_43 g16 ?_
      refine g_cVi (As := [vI (M13 44 a0), vI (M13 43 a0)]) C clX11_211 clvX10_peopleIn dX11_frame_107 hk_r14 rfl (Nat.le_of_ble_eq_true rfl) rfl (by decide) (t_X10_peopleIn (Cx.ok C) h) (fun r18 M17 h => ?_)
      exact g_reti C hR dX11_frame_110 h
    · have h := c5 q
      refine g_tswOut (tgt := 111) C dX11_frame_19 g4 q (by decide) ?_
      refine g_iconst C dX11_frame_111 rfl ?_
      exact g_reti C hR dX11_frame_112 h
  · have h := ht c
    refine g_iconst C dX11_frame_8 rfl ?_
    exact g_reti C hR dX11_frame_9 h
set_option maxRecDepth 20000 in
theorem w_X11_where_J18 {Y : YT} {X : CX} (C : Cx Y X cX11_where 3 RX11 8) {Q : Int → Mem → Prop} (hR : Rt Y X (some .int) (PQi Y Q))   {M : Mem}  (h : m_X11_where_J18  Q  M) : G Y X 3 18 [] ([]) M := by
  unfold m_X11_where_J18 at h
  refine g_iconst C dX11_where_18 rfl ?_
  exact g_reti C hR dX11_where_19 h
set_option maxRecDepth 20000 in
theorem t_X11_where {l : Launch} {Y : YT} (hY : YOK Y) {a0 : Int} {a1 : Int} {M : Mem} {Q : Int → Mem → Prop} (h : m_X11_where a0 a1 M Q) : Ctr l Y yX11_where cX11_where 3 (some .int) 8 [vR Y 0, vI a0, vI a1] M (PQi Y Q) := by
  unfold m_X11_where at h
  refine ctr_ofF hY (by decide +kernel) (Nat.le_of_ble_eq_true rfl) [(0, vR Y 0), (1, vI a0), (2, vI a1)] rfl (fun X hX C hR => ?_)
  refine g_aload_n (q := 0) C dX11_where_0 rfl rfl ?_
  refine g_iload_n (q := 1) C dX11_where_1 rfl rfl ?_
  refine g_cVi (As := [vI a0]) C clX11_177 clvX11_isPerson dX11_where_2 kd_0 rfl (Nat.le_of_ble_eq_true rfl) rfl (by decide) (t_X11_isPerson (Cx.ok C) h) (fun r2 M1 h => ?_)
  obtain ⟨g3, h⟩ := h
  obtain ⟨ht, hf⟩ := h
  refine g_if_eq (tgt := 18) C dX11_where_5 (by decide) g3 (fun c => ?_) (fun c => ?_)
  · have h := ht c
    refine G.sub [] rfl ?_
    exact w_X11_where_J18 C hR  h
  · have h := hf c
    refine g_iload_n (q := 2) C dX11_where_8 rfl rfl ?_
    obtain ⟨g4, h⟩ := h
    obtain ⟨ht, hf⟩ := h
    refine g_if_lt (tgt := 18) C dX11_where_9 (by decide) g4 (fun c => ?_) (fun c => ?_)
    · have h := ht c
      refine G.sub [] rfl ?_
      exact w_X11_where_J18 C hR  h
    · have h := hf c
      refine g_iload_n (q := 2) C dX11_where_12 rfl rfl ?_
      refine g_bipush (v := 8) C dX11_where_13 (by decide +kernel) ?_
      obtain ⟨g5, h⟩ := h
      obtain ⟨ht, hf⟩ := h
      refine g_icmp_le (tgt := 20) C dX11_where_15 (by decide) g5 (by decide) (fun c => ?_) (fun c => ?_)
      · have h := ht c
        refine g_aload_n (q := 0) C dX11_where_20 rfl rfl ?_
        refine g_cVr (As := []) C clX11_152 clvX11_thisDay dX11_where_21 kd_0 rfl (Nat.le_of_ble_eq_true rfl) rfl (by decide) (t_X11_thisDay (Cx.ok C) h) (fun r7 M6 h => ?_)
        obtain ⟨hk_r7, h⟩ := h
        refine g_iload_n (q := 1) C dX11_where_24 rfl rfl ?_
        refine g_iload_n (q := 2) C dX11_where_25 rfl rfl ?_
        refine g_cVi (As := [vI a0, vI a1]) C clX11_214 clvX10_spotOf dX11_where_26 hk_r7 rfl (Nat.le_of_ble_eq_true rfl) rfl (by decide) (t_X10_spotOf (Cx.ok C) h) (fun r9 M8 h => ?_)
        exact g_reti C hR dX11_where_29 h
      · have h := hf c
        refine G.sub [] rfl ?_
        exact w_X11_where_J18 C hR  h
set_option maxRecDepth 20000 in
theorem w_X11_who_J18 {Y : YT} {X : CX} (C : Cx Y X cX11_who 3 RX11 8) {Q : Int → Mem → Prop} (hR : Rt Y X (some .int) (PQi Y Q))   {M : Mem}  (h : m_X11_who_J18  Q  M) : G Y X 3 18 [] ([]) M := by
  unfold m_X11_who_J18 at h
  refine g_iconst C dX11_who_18 rfl ?_
  exact g_reti C hR dX11_who_19 h
set_option maxRecDepth 20000 in
theorem t_X11_who {l : Launch} {Y : YT} (hY : YOK Y) {a0 : Int} {a1 : Int} {M : Mem} {Q : Int → Mem → Prop} (h : m_X11_who a0 a1 M Q) : Ctr l Y yX11_who cX11_who 3 (some .int) 8 [vR Y 0, vI a0, vI a1] M (PQi Y Q) := by
  unfold m_X11_who at h
  refine ctr_ofF hY (by decide +kernel) (Nat.le_of_ble_eq_true rfl) [(0, vR Y 0), (1, vI a0), (2, vI a1)] rfl (fun X hX C hR => ?_)
  refine g_aload_n (q := 0) C dX11_who_0 rfl rfl ?_
  refine g_iload_n (q := 1) C dX11_who_1 rfl rfl ?_
  refine g_cVi (As := [vI a0]) C clX11_167 clvX11_isPlace dX11_who_2 kd_0 rfl (Nat.le_of_ble_eq_true rfl) rfl (by decide) (t_X11_isPlace (Cx.ok C) h) (fun r2 M1 h => ?_)
  obtain ⟨g3, h⟩ := h
  obtain ⟨ht, hf⟩ := h
  refine g_if_eq (tgt := 18) C dX11_who_5 (by decide) g3 (fun c => ?_) (fun c => ?_)
  · have h := ht c
    refine G.sub [] rfl ?_
    exact w_X11_who_J18 C hR  h
  · have h := hf c
    refine g_iload_n (q := 2) C dX11_who_8 rfl rfl ?_
    obtain ⟨g4, h⟩ := h
    obtain ⟨ht, hf⟩ := h
    refine g_if_lt (tgt := 18) C dX11_who_9 (by decide) g4 (fun c => ?_) (fun c => ?_)
    · have h := ht c
      refine G.sub [] rfl ?_
      exact w_X11_who_J18 C hR  h
    · have h := hf c
      refine g_iload_n (q := 2) C dX11_who_12 rfl rfl ?_
      refine g_bipush (v := 8) C dX11_who_13 (by decide +kernel) ?_
      obtain ⟨g5, h⟩ := h
      obtain ⟨ht, hf⟩ := h
      refine g_icmp_le (tgt := 20) C dX11_who_15 (by decide) g5 (by decide) (fun c => ?_) (fun c => ?_)
      · have h := ht c
        refine g_aload_n (q := 0) C dX11_who_20 rfl rfl ?_
        refine g_cVr (As := []) C clX11_152 clvX11_thisDay dX11_who_21 kd_0 rfl (Nat.le_of_ble_eq_true rfl) rfl (by decide) (t_X11_thisDay (Cx.ok C) h) (fun r7 M6 h => ?_)
        obtain ⟨hk_r7, h⟩ := h
        refine g_iload_n (q := 1) C dX11_who_24 rfl rfl ?_
        refine g_iload_n (q := 2) C dX11_who_25 rfl rfl ?_
        refine g_cVi (As := [vI a0, vI a1]) C clX11_211 clvX10_peopleIn dX11_who_26 hk_r7 rfl (Nat.le_of_ble_eq_true rfl) rfl (by decide) (t_X10_peopleIn (Cx.ok C) h) (fun r9 M8 h => ?_)
        exact g_reti C hR dX11_who_29 h
      · have h := hf c
        refine G.sub [] rfl ?_
        exact w_X11_who_J18 C hR  h
set_option maxRecDepth 20000 in
theorem w_X11_agrees_J22 {Y : YT} {X : CX} (C : Cx Y X cX11_agrees 1 RX11 8) {Q : Int → Mem → Prop} (hR : Rt Y X (some .int) (PQi Y Q)) {s0 : Int}  {M : Mem}  (h : m_X11_agrees_J22  Q s0 M) : G Y X 1 22 [] ((vI s0) :: []) M := by
  unfold m_X11_agrees_J22 at h
  exact g_reti C hR dX11_agrees_22 h
set_option maxRecDepth 20000 in
theorem t_X11_agrees {l : Launch} {Y : YT} (hY : YOK Y) {M : Mem} {Q : Int → Mem → Prop} (h : m_X11_agrees  M Q) : Ctr l Y yX11_agrees cX11_agrees 1 (some .int) 8 [vR Y 0] M (PQi Y Q) := by
  unfold m_X11_agrees at h
  refine ctr_ofF hY (by decide +kernel) (Nat.le_of_ble_eq_true rfl) [(0, vR Y 0)] rfl (fun X hX C hR => ?_)
  refine g_aload_n (q := 0) C dX11_agrees_0 rfl rfl ?_
  refine g_cVr (As := []) C clX11_152 clvX11_thisDay dX11_agrees_1 kd_0 rfl (Nat.le_of_ble_eq_true rfl) rfl (by decide) (t_X11_thisDay (Cx.ok C) h) (fun r2 M1 h => ?_)
  obtain ⟨hk_r2, h⟩ := h
  refine g_aload_n (q := 0) C dX11_agrees_4 rfl rfl ?_
  refine g_getS (v := 40) C fX11_38 dX11_agrees_5 kd_0 rfl ?_
  refine g_getS (v := 42) C fX11_135 dX11_agrees_8 kd_40 rfl ?_
  refine g_cVi (As := [vR Y 42]) C clX11_217 clvX10_agreesWith dX11_agrees_11 hk_r2 rfl (Nat.le_of_ble_eq_true rfl) rfl (by decide) (t_X10_agreesWith (Cx.ok C) h) (fun r4 M3 h => ?_)
  obtain ⟨g5, h⟩ := h
  obtain ⟨ht, hf⟩ := h
  refine g_if_eq (tgt := 21) C dX11_agrees_14 (by decide) g5 (fun c => ?_) (fun c => ?_)
  · have h := ht c
    refine g_iconst C dX11_agrees_21 rfl ?_
    refine G.sub [] rfl ?_
    exact w_X11_agrees_J22 C hR  h
  · have h := hf c
    refine g_iconst C dX11_agrees_17 rfl ?_
    refine g_goto (tgt := 22) C dX11_agrees_18 (by decide) ?_
    refine G.sub [] rfl ?_
    exact w_X11_agrees_J22 C hR  h
set_option maxRecDepth 20000 in
theorem w_X11_self_J90 {Y : YT} {X : CX} (C : Cx Y X cX11_self 5 RX11 7) {Q : Int → Mem → Prop} (hR : Rt Y X (some .int) (PQi Y Q)) {v1 : Int} {v2 : Int} {v3 : Int} {v4 : Int} {k33 : Int → Int → Mem → Prop} (hk33 : ∀ (v3 : Int) (v4 : Int)  (M : Mem), k33 v3 v4 M → G Y X 5 33 [(0, vR Y 0), (1, vI v1), (2, vI v2), (3, vI v3), (4, vI v4)] ([]) M) {M : Mem}  (h : m_X11_self_J90 k33 Q v1 v2 v3 v4 M) : G Y X 5 90 [(0, vR Y 0), (1, vI v1), (2, vI v2), (3, vI v3), (4, vI v4)] ([]) M := by
  unfold m_X11_self_J90 at h
  refine g_iinc (q := 4) (v := v4 + 1) (lv' := [(4, vI (v4 + 1)), (0, vR Y 0), (1, vI v1), (2, vI v2), (3, vI v3)]) C dX11_self_90 rfl rfl (by decide) rfl ?_
  refine g_goto (tgt := 33) C dX11_self_93 (by decide) ?_
  refine G.sub [1, 2, 3, 4, 0] rfl ?_
  exact hk33 _ _ _ h
set_option maxRecDepth 20000 in
theorem w_X11_self_L33 {Y : YT} {X : CX} (C : Cx Y X cX11_self 5 RX11 7) {Q : Int → Mem → Prop} (hR : Rt Y X (some .int) (PQi Y Q)) {v1 : Int} {v2 : Int}  : ∀ (f : Nat) (v3 : Int) (v4 : Int) (M : Mem), m_X11_self_L33  Q v1 v2 f v3 v4 M → G Y X 5 33 [(0, vR Y 0), (1, vI v1), (2, vI v2), (3, vI v3), (4, vI v4)] ([]) M := by
  intro f
  induction f with
  | zero =>
    intro v3 v4 M h
    exact (show False from h).elim
  | succ f ih =>
    intro v3 v4 M h
    unfold m_X11_self_L33 at h
    refine g_iload (q := 4) C dX11_self_33 rfl ?_
    refine g_bipush (v := 6) C dX11_self_35 (by decide +kernel) ?_
    obtain ⟨g1, h⟩ := h
    obtain ⟨ht, hf⟩ := h
    refine g_icmp_gt (tgt := 96) C dX11_self_37 (by decide) g1 (by decide) (fun c => ?_) (fun c => ?_)
    · have h := ht c
      refine g_iload_n (q := 3) C dX11_self_96 rfl rfl ?_
      exact g_reti C hR dX11_self_97 h
    · have h := hf c
      refine g_aload_n (q := 0) C dX11_self_40 rfl rfl ?_
      refine g_getS (v := 46) C fX11_42 dX11_self_41 kd_0 rfl ?_
      refine g_getS (v := 48) C fX11_135 dX11_self_44 kd_46 rfl ?_
      refine g_iload_n (q := 1) C dX11_self_47 rfl rfl ?_
      refine g_iload_n (q := 2) C dX11_self_48 rfl rfl ?_
      refine g_iload (q := 4) C dX11_self_49 rfl ?_
      refine g_cVv (As := [vI v1, vI v2, vI v4]) C clX11_228 clvX5_put dX11_self_51 kd_48 rfl (Nat.le_of_ble_eq_true rfl) rfl (by decide) (t_X5_put (Cx.ok C) h) (fun M2 h => ?_)
      refine g_aload_n (q := 0) C dX11_self_54 rfl rfl ?_
      refine g_getS (v := 57) C fX11_52 dX11_self_55 kd_0 rfl ?_
      refine g_aload_n (q := 0) C dX11_self_58 rfl rfl ?_
      obtain ⟨g3, h⟩ := h
      refine g_getM C fX11_28 dX11_self_59 kd_0 (kd_in g3 (by decide)).1 ?_
      refine g_aload_n (q := 0) C dX11_self_62 rfl rfl ?_
      refine g_getS (v := 46) C fX11_42 dX11_self_63 kd_0 rfl ?_
      refine g_cVv (As := [vR Y (M2 0 2), vR Y 46]) C clX11_232 clvX10_goThrough dX11_self_66 kd_57 rfl (Nat.le_of_ble_eq_true rfl) rfl (by decide) (t_X10_goThrough (Cx.ok C) h) (fun M4 h => ?_)
      refine g_aload_n (q := 0) C dX11_self_69 rfl rfl ?_
      refine g_getS (v := 57) C fX11_52 dX11_self_70 kd_0 rfl ?_
      refine g_iload_n (q := 2) C dX11_self_73 rfl rfl ?_
      refine g_iload_n (q := 1) C dX11_self_74 rfl rfl ?_
      refine g_cVi (As := [vI v2, vI v1]) C clX11_236 clvX10_countIn dX11_self_75 kd_57 rfl (Nat.le_of_ble_eq_true rfl) rfl (by decide) (t_X10_countIn (Cx.ok C) h) (fun r6 M5 h => ?_)
      refine g_iload (q := 4) C dX11_self_78 rfl ?_
      obtain ⟨g7, h⟩ := h
      obtain ⟨g8, h⟩ := h
      obtain ⟨ht, hf⟩ := h
      refine g_icmp_ne (tgt := 90) C dX11_self_80 (by decide) g7 g8 (fun c => ?_) (fun c => ?_)
      · have h := hf c
        refine G.sub [0, 1, 2, 3, 4] rfl ?_
        exact w_X11_self_J90 C hR (ih)  h
      · have h := ht c
        refine g_iload_n (q := 3) C dX11_self_83 rfl rfl ?_
        refine g_iconst C dX11_self_84 rfl ?_
        refine g_iload (q := 4) C dX11_self_85 rfl ?_
        refine g_ishl C dX11_self_87 ?_
        refine g_ior C dX11_self_88 ?_
        refine g_istore_n (lv' := [(3, vI (zor v3 (zshl 1 v4))), (0, vR Y 0), (1, vI v1), (2, vI v2), (4, vI v4)]) C dX11_self_89 rfl (by decide) rfl ?_
        refine G.sub [1, 2, 3, 0, 4] rfl ?_
        exact w_X11_self_J90 C hR (ih)  h
set_option maxRecDepth 20000 in
theorem w_X11_self_J15 {Y : YT} {X : CX} (C : Cx Y X cX11_self 5 RX11 7) {Q : Int → Mem → Prop} (hR : Rt Y X (some .int) (PQi Y Q))   {M : Mem}  (h : m_X11_self_J15  Q  M) : G Y X 5 15 [] ([]) M := by
  unfold m_X11_self_J15 at h
  refine g_iconst C dX11_self_15 rfl ?_
  exact g_reti C hR dX11_self_16 h
set_option maxRecDepth 20000 in
theorem t_X11_self {l : Launch} {Y : YT} (hY : YOK Y) {a0 : Int} {a1 : Int} {M : Mem} {Q : Int → Mem → Prop} (h : m_X11_self a0 a1 M Q) : Ctr l Y yX11_self cX11_self 5 (some .int) 7 [vR Y 0, vI a0, vI a1] M (PQi Y Q) := by
  unfold m_X11_self at h
  refine ctr_ofF hY (by decide +kernel) (Nat.le_of_ble_eq_true rfl) [(0, vR Y 0), (1, vI a0), (2, vI a1)] rfl (fun X hX C hR => ?_)
  refine g_iload_n (q := 1) C dX11_self_0 rfl rfl ?_
  refine g_cSi (As := [vI a0]) C clX11_221 clsX11_isStep dX11_self_1 rfl (Nat.le_of_ble_eq_true rfl) rfl (by decide) (t_X11_isStep (Cx.ok C) h) (fun r10 M9 h => ?_)
  obtain ⟨g11, h⟩ := h
  obtain ⟨ht, hf⟩ := h
  refine g_if_eq (tgt := 15) C dX11_self_4 (by decide) g11 (fun c => ?_) (fun c => ?_)
  · have h := ht c
    refine G.sub [] rfl ?_
    exact w_X11_self_J15 C hR  h
  · have h := hf c
    refine g_aload_n (q := 0) C dX11_self_7 rfl rfl ?_
    refine g_iload_n (q := 2) C dX11_self_8 rfl rfl ?_
    refine g_cVi (As := [vI a1]) C clX11_167 clvX11_isPlace dX11_self_9 kd_0 rfl (Nat.le_of_ble_eq_true rfl) rfl (by decide) (t_X11_isPlace (Cx.ok C) h) (fun r13 M12 h => ?_)
    obtain ⟨g14, h⟩ := h
    obtain ⟨ht, hf⟩ := h
    refine g_if_ne (tgt := 17) C dX11_self_12 (by decide) g14 (fun c => ?_) (fun c => ?_)
    · have h := hf c
      refine g_iconst C dX11_self_17 rfl ?_
      refine g_istore_n (lv' := [(3, vI 0), (0, vR Y 0), (1, vI a0), (2, vI a1)]) C dX11_self_18 rfl (by decide) rfl ?_
      refine g_aload_n (q := 1) C dX11_self_19 rfl rfl ?_
      refine g_getS (v := 46) C fX11_42 dX11_self_20 kd_0 rfl ?_
      refine g_aload_n (q := 1) C dX11_self_23 rfl rfl ?_
      refine g_getS (v := 40) C fX11_38 dX11_self_24 kd_0 rfl ?_
      refine g_cVv (As := [vR Y 40]) C clX11_224 clvX6_copy dX11_self_27 kd_46 rfl (Nat.le_of_ble_eq_true rfl) rfl (by decide) (t_X6_copy (Cx.ok C) h) (fun M15 h => ?_)
      refine g_iconst C dX11_self_30 rfl ?_
      refine g_istore (lv' := [(4, vI 0), (3, vI 0), (0, vR Y 0), (1, vI a0), (2, vI a1)]) C dX11_self_31 (by decide) rfl ?_
      obtain ⟨f0, h⟩ := h
      refine G.sub [2, 3, 4, 1, 0] rfl ?_
      exact w_X11_self_L33 C hR  f0 _ _ _ h
    · have h := ht c
      refine G.sub [] rfl ?_
      exact w_X11_self_J15 C hR  h
set_option maxRecDepth 20000 in
theorem w_X11_agreesWithout_J48 {Y : YT} {X : CX} (C : Cx Y X cX11_agreesWithout 3 RX11 7) {Q : Int → Mem → Prop} (hR : Rt Y X (some .boolean) (PQi Y Q)) {v1 : Int} {v2 : Int} {k24 : Int → Mem → Prop} (hk24 : ∀ (v2 : Int)  (M : Mem), k24 v2 M → G Y X 3 24 [(0, vR Y 0), (1, vI v1), (2, vI v2)] ([]) M) {M : Mem}  (h : m_X11_agreesWithout_J48 k24 Q v1 v2 M) : G Y X 3 48 [(0, vR Y 0), (1, vI v1), (2, vI v2)] ([]) M := by
  unfold m_X11_agreesWithout_J48 at h
  refine g_iinc (q := 2) (v := v2 + (-1)) (lv' := [(2, vI (v2 + (-1))), (0, vR Y 0), (1, vI v1)]) C dX11_agreesWithout_48 rfl rfl (by decide) rfl ?_
  refine g_goto (tgt := 24) C dX11_agreesWithout_51 (by decide) ?_
  refine G.sub [1, 2, 0] rfl ?_
  exact hk24 _ _ h
set_option maxRecDepth 20000 in
theorem w_X11_agreesWithout_L24 {Y : YT} {X : CX} (C : Cx Y X cX11_agreesWithout 3 RX11 7) {Q : Int → Mem → Prop} (hR : Rt Y X (some .boolean) (PQi Y Q)) {v1 : Int}  : ∀ (f : Nat) (v2 : Int) (M : Mem), m_X11_agreesWithout_L24  Q v1 f v2 M → G Y X 3 24 [(0, vR Y 0), (1, vI v1), (2, vI v2)] ([]) M := by
  intro f
  induction f with
  | zero =>
    intro v2 M h
    exact (show False from h).elim
  | succ f ih =>
    intro v2 M h
    unfold m_X11_agreesWithout_L24 at h
    refine g_iload_n (q := 2) C dX11_agreesWithout_24 rfl rfl ?_
    obtain ⟨g1, h⟩ := h
    obtain ⟨ht, hf⟩ := h
    refine g_if_lt (tgt := 54) C dX11_agreesWithout_25 (by decide) g1 (fun c => ?_) (fun c => ?_)
    · have h := ht c
      refine g_aload_n (q := 0) C dX11_agreesWithout_54 rfl rfl ?_
      refine g_getS (v := 57) C fX11_52 dX11_agreesWithout_55 kd_0 rfl ?_
      refine g_aload_n (q := 0) C dX11_agreesWithout_58 rfl rfl ?_
      obtain ⟨g2, h⟩ := h
      refine g_getM C fX11_28 dX11_agreesWithout_59 kd_0 (kd_in g2 (by decide)).1 ?_
      refine g_aload_n (q := 0) C dX11_agreesWithout_62 rfl rfl ?_
      refine g_getS (v := 46) C fX11_42 dX11_agreesWithout_63 kd_0 rfl ?_
      refine g_cVi (As := [vR Y (M 0 2), vR Y 46]) C clX11_242 clvX10_agreesIn dX11_agreesWithout_66 kd_57 rfl (Nat.le_of_ble_eq_true rfl) rfl (by decide) (t_X10_agreesIn (Cx.ok C) h) (fun r4 M3 h => ?_)
      obtain ⟨g5, h⟩ := h
      exact g_retz C hR dX11_agreesWithout_69 g5 h
    · have h := hf c
      refine g_iload_n (q := 1) C dX11_agreesWithout_28 rfl rfl ?_
      refine g_iload_n (q := 2) C dX11_agreesWithout_29 rfl rfl ?_
      refine g_ishr C dX11_agreesWithout_30 ?_
      refine g_iconst C dX11_agreesWithout_31 rfl ?_
      refine g_iand C dX11_agreesWithout_32 ?_
      refine g_iconst C dX11_agreesWithout_33 rfl ?_
      obtain ⟨g6, h⟩ := h
      obtain ⟨ht, hf⟩ := h
      refine g_icmp_ne (tgt := 48) C dX11_agreesWithout_34 (by decide) g6 (by decide) (fun c => ?_) (fun c => ?_)
      · have h := hf c
        refine G.sub [0, 1, 2] rfl ?_
        exact w_X11_agreesWithout_J48 C hR (ih)  h
      · have h := ht c
        refine g_aload_n (q := 0) C dX11_agreesWithout_37 rfl rfl ?_
        refine g_getS (v := 46) C fX11_42 dX11_agreesWithout_38 kd_0 rfl ?_
        refine g_getS (v := 48) C fX11_135 dX11_agreesWithout_41 kd_46 rfl ?_
        refine g_iload_n (q := 2) C dX11_agreesWithout_44 rfl rfl ?_
        refine g_cVv (As := [vI v2]) C clX11_299 clvX5_remove dX11_agreesWithout_45 kd_48 rfl (Nat.le_of_ble_eq_true rfl) rfl (by decide) (t_X5_remove (Cx.ok C) h) (fun M7 h => ?_)
        refine G.sub [0, 1, 2] rfl ?_
        exact w_X11_agreesWithout_J48 C hR (ih)  h
set_option maxRecDepth 20000 in
theorem t_X11_agreesWithout {l : Launch} {Y : YT} (hY : YOK Y) {a0 : Int} {M : Mem} {Q : Int → Mem → Prop} (h : m_X11_agreesWithout a0 M Q) : Ctr l Y yX11_agreesWithout cX11_agreesWithout 3 (some .boolean) 7 [vR Y 0, vI a0] M (PQi Y Q) := by
  unfold m_X11_agreesWithout at h
  refine ctr_ofF hY (by decide +kernel) (Nat.le_of_ble_eq_true rfl) [(0, vR Y 0), (1, vI a0)] rfl (fun X hX C hR => ?_)
  refine g_aload_n (q := 0) C dX11_agreesWithout_0 rfl rfl ?_
  refine g_getS (v := 46) C fX11_42 dX11_agreesWithout_1 kd_0 rfl ?_
  refine g_aload_n (q := 0) C dX11_agreesWithout_4 rfl rfl ?_
  refine g_getS (v := 40) C fX11_38 dX11_agreesWithout_5 kd_0 rfl ?_
  refine g_cVv (As := [vR Y 40]) C clX11_224 clvX6_copy dX11_agreesWithout_8 kd_46 rfl (Nat.le_of_ble_eq_true rfl) rfl (by decide) (t_X6_copy (Cx.ok C) h) (fun M8 h => ?_)
  refine g_aload_n (q := 0) C dX11_agreesWithout_11 rfl rfl ?_
  refine g_getS (v := 40) C fX11_38 dX11_agreesWithout_12 kd_0 rfl ?_
  refine g_getS (v := 42) C fX11_135 dX11_agreesWithout_15 kd_40 rfl ?_
  refine g_getI C fX11_139 (by decide) dX11_agreesWithout_18 kd_42 ?_
  refine g_iconst C dX11_agreesWithout_21 rfl ?_
  refine g_isub C dX11_agreesWithout_22 ?_
  refine g_istore_n (lv' := [(2, vI ((M8 42 0) - 1)), (0, vR Y 0), (1, vI a0)]) C dX11_agreesWithout_23 rfl (by decide) rfl ?_
  obtain ⟨f0, h⟩ := h
  refine G.sub [1, 2, 0] rfl ?_
  exact w_X11_agreesWithout_L24 C hR  f0 _ _ h
set_option maxRecDepth 20000 in
theorem w_X11_cuts_J52 {Y : YT} {X : CX} (C : Cx Y X cX11_cuts 5 RX11 8) {Q : Int → Mem → Prop} (hR : Rt Y X (some .int) (PQi Y Q)) {v1 : Int} {v2 : Int} {v3 : Int} {v4 : Int} {k17 : Int → Mem → Prop} (hk17 : ∀ (v3 : Int)  (M : Mem), k17 v3 M → G Y X 5 17 [(0, vR Y 0), (1, vI v1), (2, vI v2), (3, vI v3)] ([]) M) {k25 : Int → Mem → Prop} (hk25 : ∀ (v4 : Int)  (M : Mem), k25 v4 M → G Y X 5 25 [(0, vR Y 0), (1, vI v1), (2, vI v2), (3, vI v3), (4, vI v4)] ([]) M) {M : Mem}  (h : m_X11_cuts_J52 k17 k25 Q v1 v2 v3 v4 M) : G Y X 5 52 [(0, vR Y 0), (1, vI v1), (2, vI v2), (3, vI v3), (4, vI v4)] ([]) M := by
  unfold m_X11_cuts_J52 at h
  refine g_iinc (q := 4) (v := v4 + 1) (lv' := [(4, vI (v4 + 1)), (0, vR Y 0), (1, vI v1), (2, vI v2), (3, vI v3)]) C dX11_cuts_52 rfl rfl (by decide) rfl ?_
  refine g_goto (tgt := 25) C dX11_cuts_55 (by decide) ?_
  refine G.sub [1, 2, 3, 4, 0] rfl ?_
  exact hk25 _ _ h
set_option maxRecDepth 20000 in
theorem w_X11_cuts_L25 {Y : YT} {X : CX} (C : Cx Y X cX11_cuts 5 RX11 8) {Q : Int → Mem → Prop} (hR : Rt Y X (some .int) (PQi Y Q)) {v1 : Int} {v2 : Int} {v3 : Int} {k17 : Int → Mem → Prop} (hk17 : ∀ (v3 : Int)  (M : Mem), k17 v3 M → G Y X 5 17 [(0, vR Y 0), (1, vI v1), (2, vI v2), (3, vI v3)] ([]) M) : ∀ (f : Nat) (v4 : Int) (M : Mem), m_X11_cuts_L25 k17 Q v1 v2 v3 f v4 M → G Y X 5 25 [(0, vR Y 0), (1, vI v1), (2, vI v2), (3, vI v3), (4, vI v4)] ([]) M := by
  intro f
  induction f with
  | zero =>
    intro v4 M h
    exact (show False from h).elim
  | succ f ih =>
    intro v4 M h
    unfold m_X11_cuts_L25 at h
    refine g_iload (q := 4) C dX11_cuts_25 rfl ?_
    refine g_iload_n (q := 2) C dX11_cuts_27 rfl rfl ?_
    obtain ⟨g1, h⟩ := h
    obtain ⟨g2, h⟩ := h
    obtain ⟨ht, hf⟩ := h
    refine g_icmp_ge (tgt := 58) C dX11_cuts_28 (by decide) g1 g2 (fun c => ?_) (fun c => ?_)
    · have h := ht c
      refine g_iinc (q := 3) (v := v3 + 1) (lv' := [(3, vI (v3 + 1)), (0, vR Y 0), (1, vI v1), (2, vI v2), (4, vI v4)]) C dX11_cuts_58 rfl rfl (by decide) rfl ?_
      refine g_goto (tgt := 17) C dX11_cuts_61 (by decide) ?_
      refine G.sub [1, 2, 3, 0] rfl ?_
      exact hk17 _ _ h
    · have h := hf c
      refine g_iload (q := 4) C dX11_cuts_31 rfl ?_
      refine g_cSi (As := [vI v4]) C clX11_147 clsJ6_bitCount_0f7a4 dX11_cuts_33 rfl (Nat.le_of_ble_eq_true rfl) rfl (by decide) (t_J6_bitCount_0f7a4 (Cx.ok C) h) (fun r4 M3 h => ?_)
      refine g_iload_n (q := 3) C dX11_cuts_36 rfl rfl ?_
      obtain ⟨g5, h⟩ := h
      obtain ⟨g6, h⟩ := h
      obtain ⟨ht, hf⟩ := h
      refine g_icmp_ne (tgt := 52) C dX11_cuts_37 (by decide) g5 g6 (fun c => ?_) (fun c => ?_)
      · have h := hf c
        refine G.sub [0, 1, 2, 3, 4] rfl ?_
        exact w_X11_cuts_J52 C hR (hk17) (ih)  h
      · have h := ht c
        refine g_aload_n (q := 0) C dX11_cuts_40 rfl rfl ?_
        refine g_iload (q := 4) C dX11_cuts_41 rfl ?_
        refine g_cVi (As := [vI v4]) C clX11_239 clvX11_agreesWithout dX11_cuts_43 kd_0 rfl (Nat.le_of_ble_eq_true rfl) rfl (by decide) (t_X11_agreesWithout (Cx.ok C) h) (fun r8 M7 h => ?_)
        obtain ⟨g9, h⟩ := h
        obtain ⟨ht, hf⟩ := h
        refine g_if_eq (tgt := 52) C dX11_cuts_46 (by decide) g9 (fun c => ?_) (fun c => ?_)
        · have h := ht c
          refine G.sub [0, 1, 2, 3, 4] rfl ?_
          exact w_X11_cuts_J52 C hR (hk17) (ih)  h
        · have h := hf c
          refine g_iload (q := 4) C dX11_cuts_49 rfl ?_
          exact g_reti C hR dX11_cuts_51 h
set_option maxRecDepth 20000 in
theorem w_X11_cuts_L17 {Y : YT} {X : CX} (C : Cx Y X cX11_cuts 5 RX11 8) {Q : Int → Mem → Prop} (hR : Rt Y X (some .int) (PQi Y Q)) {v1 : Int} {v2 : Int}  : ∀ (f : Nat) (v3 : Int) (M : Mem), m_X11_cuts_L17  Q v1 v2 f v3 M → G Y X 5 17 [(0, vR Y 0), (1, vI v1), (2, vI v2), (3, vI v3)] ([]) M := by
  intro f
  induction f with
  | zero =>
    intro v3 M h
    exact (show False from h).elim
  | succ f ih =>
    intro v3 M h
    unfold m_X11_cuts_L17 at h
    refine g_iload_n (q := 3) C dX11_cuts_17 rfl rfl ?_
    refine g_iload_n (q := 1) C dX11_cuts_18 rfl rfl ?_
    obtain ⟨g10, h⟩ := h
    obtain ⟨g11, h⟩ := h
    obtain ⟨ht, hf⟩ := h
    refine g_icmp_gt (tgt := 64) C dX11_cuts_19 (by decide) g10 g11 (fun c => ?_) (fun c => ?_)
    · have h := ht c
      refine g_iload_n (q := 2) C dX11_cuts_64 rfl rfl ?_
      refine g_iconst C dX11_cuts_65 rfl ?_
      refine g_isub C dX11_cuts_66 ?_
      exact g_reti C hR dX11_cuts_67 h
    · have h := hf c
      refine g_iconst C dX11_cuts_22 rfl ?_
      refine g_istore (lv' := [(4, vI 0), (0, vR Y 0), (1, vI v1), (2, vI v2), (3, vI v3)]) C dX11_cuts_23 (by decide) rfl ?_
      obtain ⟨f0, h⟩ := h
      refine G.sub [1, 2, 3, 4, 0] rfl ?_
      exact w_X11_cuts_L25 C hR (ih)  f0 _ _ h
set_option maxRecDepth 20000 in
theorem t_X11_cuts {l : Launch} {Y : YT} (hY : YOK Y) {M : Mem} {Q : Int → Mem → Prop} (h : m_X11_cuts  M Q) : Ctr l Y yX11_cuts cX11_cuts 5 (some .int) 8 [vR Y 0] M (PQi Y Q) := by
  unfold m_X11_cuts at h
  refine ctr_ofF hY (by decide +kernel) (Nat.le_of_ble_eq_true rfl) [(0, vR Y 0)] rfl (fun X hX C hR => ?_)
  refine g_aload_n (q := 0) C dX11_cuts_0 rfl rfl ?_
  refine g_getS (v := 40) C fX11_38 dX11_cuts_1 kd_0 rfl ?_
  refine g_getS (v := 42) C fX11_135 dX11_cuts_4 kd_40 rfl ?_
  refine g_getI C fX11_139 (by decide) dX11_cuts_7 kd_42 ?_
  refine g_istore_n (lv' := [(1, vI (M 42 0)), (0, vR Y 0)]) C dX11_cuts_10 rfl (by decide) rfl ?_
  refine g_iconst C dX11_cuts_11 rfl ?_
  refine g_iload_n (q := 0) C dX11_cuts_12 rfl rfl ?_
  refine g_ishl C dX11_cuts_13 ?_
  refine g_istore_n (lv' := [(2, vI (zshl 1 (M 42 0))), (1, vI (M 42 0)), (0, vR Y 0)]) C dX11_cuts_14 rfl (by decide) rfl ?_
  refine g_iconst C dX11_cuts_15 rfl ?_
  refine g_istore_n (lv' := [(3, vI 0), (2, vI (zshl 1 (M 42 0))), (1, vI (M 42 0)), (0, vR Y 0)]) C dX11_cuts_16 rfl (by decide) rfl ?_
  obtain ⟨f0, h⟩ := h
  refine G.sub [3, 2, 1, 0] rfl ?_
  exact w_X11_cuts_L17 C hR  f0 _ _ h
set_option maxRecDepth 20000 in
theorem w_X11_crowd_J81 {Y : YT} {X : CX} (C : Cx Y X cX11_crowd 5 RX11 7) {Q : Int → Mem → Prop} (hR : Rt Y X (some .int) (PQi Y Q)) {v1 : Int} {v2 : Int} {v3 : Int} {v4 : Int} {k25 : Int → Mem → Prop} (hk25 : ∀ (v3 : Int)  (M : Mem), k25 v3 M → G Y X 5 25 [(0, vR Y 0), (1, vI v1), (2, vI v2), (3, vI v3)] ([]) M) {k33 : Int → Mem → Prop} (hk33 : ∀ (v4 : Int)  (M : Mem), k33 v4 M → G Y X 5 33 [(0, vR Y 0), (1, vI v1), (2, vI v2), (3, vI v3), (4, vI v4)] ([]) M) {M : Mem}  (h : m_X11_crowd_J81 k25 k33 Q v1 v2 v3 v4 M) : G Y X 5 81 [(0, vR Y 0), (1, vI v1), (2, vI v2), (3, vI v3), (4, vI v4)] ([]) M := by
  unfold m_X11_crowd_J81 at h
  refine g_iinc (q := 4) (v := v4 + 1) (lv' := [(4, vI (v4 + 1)), (0, vR Y 0), (1, vI v1), (2, vI v2), (3, vI v3)]) C dX11_crowd_81 rfl rfl (by decide) rfl ?_
  refine g_goto (tgt := 33) C dX11_crowd_84 (by decide) ?_
  refine G.sub [1, 2, 3, 4, 0] rfl ?_
  exact hk33 _ _ h
set_option maxRecDepth 20000 in
theorem w_X11_crowd_L33 {Y : YT} {X : CX} (C : Cx Y X cX11_crowd 5 RX11 7) {Q : Int → Mem → Prop} (hR : Rt Y X (some .int) (PQi Y Q)) {v1 : Int} {v2 : Int} {v3 : Int} {k25 : Int → Mem → Prop} (hk25 : ∀ (v3 : Int)  (M : Mem), k25 v3 M → G Y X 5 25 [(0, vR Y 0), (1, vI v1), (2, vI v2), (3, vI v3)] ([]) M) : ∀ (f : Nat) (v4 : Int) (M : Mem), m_X11_crowd_L33 k25 Q v1 v2 v3 f v4 M → G Y X 5 33 [(0, vR Y 0), (1, vI v1), (2, vI v2), (3, vI v3), (4, vI v4)] ([]) M := by
  intro f
  induction f with
  | zero =>
    intro v4 M h
    exact (show False from h).elim
  | succ f ih =>
    intro v4 M h
    unfold m_X11_crowd_L33 at h
    refine g_iload (q := 4) C dX11_crowd_33 rfl ?_
    refine g_iload_n (q := 2) C dX11_crowd_35 rfl rfl ?_
    obtain ⟨g1, h⟩ := h
    obtain ⟨g2, h⟩ := h
    obtain ⟨ht, hf⟩ := h
    refine g_icmp_ge (tgt := 87) C dX11_crowd_36 (by decide) g1 g2 (fun c => ?_) (fun c => ?_)
    · have h := ht c
      refine g_iinc (q := 3) (v := v3 + 1) (lv' := [(3, vI (v3 + 1)), (0, vR Y 0), (1, vI v1), (2, vI v2), (4, vI v4)]) C dX11_crowd_87 rfl rfl (by decide) rfl ?_
      refine g_goto (tgt := 25) C dX11_crowd_90 (by decide) ?_
      refine G.sub [1, 2, 3, 0] rfl ?_
      exact hk25 _ _ h
    · have h := hf c
      refine g_iload (q := 4) C dX11_crowd_39 rfl ?_
      refine g_cSi (As := [vI v4]) C clX11_147 clsJ6_bitCount_0f7a4 dX11_crowd_41 rfl (Nat.le_of_ble_eq_true rfl) rfl (by decide) (t_J6_bitCount_0f7a4 (Cx.ok C) h) (fun r4 M3 h => ?_)
      refine g_iload_n (q := 3) C dX11_crowd_44 rfl rfl ?_
      obtain ⟨g5, h⟩ := h
      obtain ⟨g6, h⟩ := h
      obtain ⟨ht, hf⟩ := h
      refine g_icmp_eq (tgt := 51) C dX11_crowd_45 (by decide) g5 g6 (fun c => ?_) (fun c => ?_)
      · have h := ht c
        refine g_aload_n (q := 0) C dX11_crowd_51 rfl rfl ?_
        refine g_getS (v := 46) C fX11_42 dX11_crowd_52 kd_0 rfl ?_
        refine g_iload (q := 4) C dX11_crowd_55 rfl ?_
        obtain ⟨M7, e_M7⟩ : ∃ z : Mem, z = up M3 46 2 v4 := ⟨_, rfl⟩
        have h := h M7 e_M7
        refine g_putI C fX11_144 pX11_144 dX11_crowd_57 kd_46 e_M7 ?_
        refine g_aload_n (q := 0) C dX11_crowd_60 rfl rfl ?_
        refine g_getS (v := 57) C fX11_52 dX11_crowd_61 kd_0 rfl ?_
        refine g_aload_n (q := 0) C dX11_crowd_64 rfl rfl ?_
        obtain ⟨g8, h⟩ := h
        refine g_getM C fX11_28 dX11_crowd_65 kd_0 (kd_in g8 (by decide)).1 ?_
        refine g_aload_n (q := 0) C dX11_crowd_68 rfl rfl ?_
        refine g_getS (v := 46) C fX11_42 dX11_crowd_69 kd_0 rfl ?_
        refine g_cVi (As := [vR Y (M7 0 2), vR Y 46]) C clX11_242 clvX10_agreesIn dX11_crowd_72 kd_57 rfl (Nat.le_of_ble_eq_true rfl) rfl (by decide) (t_X10_agreesIn (Cx.ok C) h) (fun r10 M9 h => ?_)
        obtain ⟨g11, h⟩ := h
        obtain ⟨ht, hf⟩ := h
        refine g_if_eq (tgt := 81) C dX11_crowd_75 (by decide) g11 (fun c => ?_) (fun c => ?_)
        · have h := ht c
          refine G.sub [0, 1, 2, 3, 4] rfl ?_
          exact w_X11_crowd_J81 C hR (hk25) (ih)  h
        · have h := hf c
          refine g_iload (q := 4) C dX11_crowd_78 rfl ?_
          exact g_reti C hR dX11_crowd_80 h
      · have h := hf c
        refine g_goto (tgt := 81) C dX11_crowd_48 (by decide) ?_
        refine G.sub [0, 1, 2, 3, 4] rfl ?_
        exact w_X11_crowd_J81 C hR (hk25) (ih)  h
set_option maxRecDepth 20000 in
theorem w_X11_crowd_L25 {Y : YT} {X : CX} (C : Cx Y X cX11_crowd 5 RX11 7) {Q : Int → Mem → Prop} (hR : Rt Y X (some .int) (PQi Y Q)) {v1 : Int} {v2 : Int}  : ∀ (f : Nat) (v3 : Int) (M : Mem), m_X11_crowd_L25  Q v1 v2 f v3 M → G Y X 5 25 [(0, vR Y 0), (1, vI v1), (2, vI v2), (3, vI v3)] ([]) M := by
  intro f
  induction f with
  | zero =>
    intro v3 M h
    exact (show False from h).elim
  | succ f ih =>
    intro v3 M h
    unfold m_X11_crowd_L25 at h
    refine g_iload_n (q := 3) C dX11_crowd_25 rfl rfl ?_
    refine g_iload_n (q := 1) C dX11_crowd_26 rfl rfl ?_
    obtain ⟨g12, h⟩ := h
    obtain ⟨g13, h⟩ := h
    obtain ⟨ht, hf⟩ := h
    refine g_icmp_gt (tgt := 93) C dX11_crowd_27 (by decide) g12 g13 (fun c => ?_) (fun c => ?_)
    · have h := ht c
      refine g_iconst C dX11_crowd_93 rfl ?_
      exact g_reti C hR dX11_crowd_94 h
    · have h := hf c
      refine g_iconst C dX11_crowd_30 rfl ?_
      refine g_istore (lv' := [(4, vI 0), (0, vR Y 0), (1, vI v1), (2, vI v2), (3, vI v3)]) C dX11_crowd_31 (by decide) rfl ?_
      obtain ⟨f0, h⟩ := h
      refine G.sub [1, 2, 3, 4, 0] rfl ?_
      exact w_X11_crowd_L33 C hR (ih)  f0 _ _ h
set_option maxRecDepth 20000 in
theorem t_X11_crowd {l : Launch} {Y : YT} (hY : YOK Y) {M : Mem} {Q : Int → Mem → Prop} (h : m_X11_crowd  M Q) : Ctr l Y yX11_crowd cX11_crowd 5 (some .int) 7 [vR Y 0] M (PQi Y Q) := by
  unfold m_X11_crowd at h
  refine ctr_ofF hY (by decide +kernel) (Nat.le_of_ble_eq_true rfl) [(0, vR Y 0)] rfl (fun X hX C hR => ?_)
  refine g_aload_n (q := 0) C dX11_crowd_0 rfl rfl ?_
  obtain ⟨g14, h⟩ := h
  refine g_getM C fX11_28 dX11_crowd_1 kd_0 (kd_in g14 (by decide)).1 ?_
  refine g_getI C fX11_129 (by decide) dX11_crowd_4 g14 ?_
  refine g_istore_n (lv' := [(1, vI (M (M 0 2) 5)), (0, vR Y 0)]) C dX11_crowd_7 rfl (by decide) rfl ?_
  refine g_iconst C dX11_crowd_8 rfl ?_
  refine g_iload_n (q := 0) C dX11_crowd_9 rfl rfl ?_
  refine g_ishl C dX11_crowd_10 ?_
  refine g_istore_n (lv' := [(2, vI (zshl 1 (M (M 0 2) 5))), (1, vI (M (M 0 2) 5)), (0, vR Y 0)]) C dX11_crowd_11 rfl (by decide) rfl ?_
  refine g_aload_n (q := 2) C dX11_crowd_12 rfl rfl ?_
  refine g_getS (v := 46) C fX11_42 dX11_crowd_13 kd_0 rfl ?_
  refine g_aload_n (q := 2) C dX11_crowd_16 rfl rfl ?_
  refine g_getS (v := 40) C fX11_38 dX11_crowd_17 kd_0 rfl ?_
  refine g_cVv (As := [vR Y 40]) C clX11_224 clvX6_copy dX11_crowd_20 kd_46 rfl (Nat.le_of_ble_eq_true rfl) rfl (by decide) (t_X6_copy (Cx.ok C) h) (fun M15 h => ?_)
  refine g_iconst C dX11_crowd_23 rfl ?_
  refine g_istore_n (lv' := [(3, vI 0), (2, vI (zshl 1 (M (M 0 2) 5))), (1, vI (M (M 0 2) 5)), (0, vR Y 0)]) C dX11_crowd_24 rfl (by decide) rfl ?_
  obtain ⟨f0, h⟩ := h
  refine G.sub [3, 2, 1, 0] rfl ?_
  exact w_X11_crowd_L25 C hR  f0 _ _ h
set_option maxRecDepth 20000 in
theorem w_X11_empty_J34 {Y : YT} {X : CX} (C : Cx Y X cX11_empty 4 RX11 8) {Q : Int → Mem → Prop} (hR : Rt Y X (some .int) (PQi Y Q)) {v1 : Int} {v2 : Int} {v3 : Int} {k9 : Int → Int → Mem → Prop} (hk9 : ∀ (v1 : Int) (v3 : Int)  (M : Mem), k9 v1 v3 M → G Y X 4 9 [(0, vR Y 0), (1, vI v1), (2, vR Y v2), (3, vI v3)] ([]) M) {M : Mem} (hk_v2 : kd v2 = 10) (h : m_X11_empty_J34 k9 Q v1 v2 v3 M) : G Y X 4 34 [(0, vR Y 0), (1, vI v1), (2, vR Y v2), (3, vI v3)] ([]) M := by
  unfold m_X11_empty_J34 at h
  refine g_iinc (q := 3) (v := v3 + 1) (lv' := [(3, vI (v3 + 1)), (0, vR Y 0), (1, vI v1), (2, vR Y v2)]) C dX11_empty_34 rfl rfl (by decide) rfl ?_
  refine g_goto (tgt := 9) C dX11_empty_37 (by decide) ?_
  refine G.sub [1, 2, 3, 0] rfl ?_
  exact hk9 _ _ _ h
set_option maxRecDepth 20000 in
theorem w_X11_empty_L9 {Y : YT} {X : CX} (C : Cx Y X cX11_empty 4 RX11 8) {Q : Int → Mem → Prop} (hR : Rt Y X (some .int) (PQi Y Q)) {v2 : Int}  (hk_v2 : kd v2 = 10): ∀ (f : Nat) (v1 : Int) (v3 : Int) (M : Mem), m_X11_empty_L9  Q v2 f v1 v3 M → G Y X 4 9 [(0, vR Y 0), (1, vI v1), (2, vR Y v2), (3, vI v3)] ([]) M := by
  intro f
  induction f with
  | zero =>
    intro v1 v3 M h
    exact (show False from h).elim
  | succ f ih =>
    intro v1 v3 M h
    unfold m_X11_empty_L9 at h
    refine g_iload_n (q := 3) C dX11_empty_9 rfl rfl ?_
    refine g_aload_n (q := 0) C dX11_empty_10 rfl rfl ?_
    obtain ⟨g1, h⟩ := h
    refine g_getM C fX11_28 dX11_empty_11 kd_0 (kd_in g1 (by decide)).1 ?_
    refine g_getI C fX11_123 (by decide) dX11_empty_14 g1 ?_
    obtain ⟨g2, h⟩ := h
    obtain ⟨g3, h⟩ := h
    obtain ⟨ht, hf⟩ := h
    refine g_icmp_ge (tgt := 40) C dX11_empty_17 (by decide) g2 g3 (fun c => ?_) (fun c => ?_)
    · have h := ht c
      refine g_iload_n (q := 1) C dX11_empty_40 rfl rfl ?_
      exact g_reti C hR dX11_empty_41 h
    · have h := hf c
      refine g_aload_n (q := 2) C dX11_empty_20 rfl rfl ?_
      refine g_iload_n (q := 3) C dX11_empty_21 rfl rfl ?_
      refine g_cVi (As := [vI v3]) C clX11_246 clvX10_isNeverEntered dX11_empty_22 hk_v2 rfl (Nat.le_of_ble_eq_true rfl) rfl (by decide) (t_X10_isNeverEntered (Cx.ok C) h) (fun r5 M4 h => ?_)
      obtain ⟨g6, h⟩ := h
      obtain ⟨ht, hf⟩ := h
      refine g_if_eq (tgt := 34) C dX11_empty_25 (by decide) g6 (fun c => ?_) (fun c => ?_)
      · have h := ht c
        refine G.sub [0, 1, 2, 3] rfl ?_
        exact w_X11_empty_J34 C hR (ih) hk_v2 h
      · have h := hf c
        refine g_iload_n (q := 1) C dX11_empty_28 rfl rfl ?_
        refine g_iconst C dX11_empty_29 rfl ?_
        refine g_iload_n (q := 3) C dX11_empty_30 rfl rfl ?_
        refine g_ishl C dX11_empty_31 ?_
        refine g_ior C dX11_empty_32 ?_
        refine g_istore_n (lv' := [(1, vI (zor v1 (zshl 1 v3))), (0, vR Y 0), (2, vR Y v2), (3, vI v3)]) C dX11_empty_33 rfl (by decide) rfl ?_
        refine G.sub [1, 0, 2, 3] rfl ?_
        exact w_X11_empty_J34 C hR (ih) hk_v2 h
set_option maxRecDepth 20000 in
theorem t_X11_empty {l : Launch} {Y : YT} (hY : YOK Y) {M : Mem} {Q : Int → Mem → Prop} (h : m_X11_empty  M Q) : Ctr l Y yX11_empty cX11_empty 4 (some .int) 8 [vR Y 0] M (PQi Y Q) := by
  unfold m_X11_empty at h
  refine ctr_ofF hY (by decide +kernel) (Nat.le_of_ble_eq_true rfl) [(0, vR Y 0)] rfl (fun X hX C hR => ?_)
  refine g_iconst C dX11_empty_0 rfl ?_
  refine g_istore_n (lv' := [(1, vI 0), (0, vR Y 0)]) C dX11_empty_1 rfl (by decide) rfl ?_
  refine g_aload_n (q := 1) C dX11_empty_2 rfl rfl ?_
  refine g_cVr (As := []) C clX11_152 clvX11_thisDay dX11_empty_3 kd_0 rfl (Nat.le_of_ble_eq_true rfl) rfl (by decide) (t_X11_thisDay (Cx.ok C) h) (fun r8 M7 h => ?_)
  obtain ⟨hk_r8, h⟩ := h
  refine g_astore_n (lv' := [(2, vR Y r8), (1, vI 0), (0, vR Y 0)]) C dX11_empty_6 rfl (by decide) rfl ?_
  refine g_iconst C dX11_empty_7 rfl ?_
  refine g_istore_n (lv' := [(3, vI 0), (2, vR Y r8), (1, vI 0), (0, vR Y 0)]) C dX11_empty_8 rfl (by decide) rfl ?_
  obtain ⟨f0, h⟩ := h
  refine G.sub [3, 2, 1, 0] rfl ?_
  exact w_X11_empty_L9 C hR hk_r8 f0 _ _ _ h
set_option maxRecDepth 20000 in
theorem t_X11_daysAhead {l : Launch} {Y : YT} (hY : YOK Y) {M : Mem} {Q : Int → Mem → Prop} (h : m_X11_daysAhead  M Q) : Ctr l Y yX11_daysAhead cX11_daysAhead 1 (some .int) 2 [vR Y 0] M (PQi Y Q) := by
  unfold m_X11_daysAhead at h
  refine ctr_ofF hY (by decide +kernel) (Nat.le_of_ble_eq_true rfl) [(0, vR Y 0)] rfl (fun X hX C hR => ?_)
  refine g_bipush (v := 40) C dX11_daysAhead_0 (by decide +kernel) ?_
  refine g_sipush (v := 999) C dX11_daysAhead_2 (by decide +kernel) ?_
  refine g_aload_n (q := 0) C dX11_daysAhead_5 rfl rfl ?_
  refine g_getS (v := 40) C fX11_38 dX11_daysAhead_6 kd_0 rfl ?_
  refine g_getI C fX11_132 (by decide) dX11_daysAhead_9 kd_40 ?_
  refine g_isub C dX11_daysAhead_12 ?_
  refine g_cSi (As := [vI 40, vI (999 - (M 40 0))]) C clX11_322 clsJ9_min_7cf53 dX11_daysAhead_13 rfl (Nat.le_of_ble_eq_true rfl) rfl (by decide) (t_J9_min_7cf53 (Cx.ok C) h) (fun r2 M1 h => ?_)
  exact g_reti C hR dX11_daysAhead_16 h
set_option maxRecDepth 20000 in
theorem w_X11_later_L35 {Y : YT} {X : CX} (C : Cx Y X cX11_later 4 RX11 7) {Q : Int → Mem → Prop} (hR : Rt Y X (some .int) (PQi Y Q)) {v1 : Int} {v2 : Int}  : ∀ (f : Nat) (v3 : Int) (M : Mem), m_X11_later_L35  Q v1 v2 f v3 M → G Y X 4 35 [(0, vR Y 0), (1, vI v1), (2, vI v2), (3, vI v3)] ([]) M := by
  intro f
  induction f with
  | zero =>
    intro v3 M h
    exact (show False from h).elim
  | succ f ih =>
    intro v3 M h
    unfold m_X11_later_L35 at h
    refine g_iload_n (q := 3) C dX11_later_35 rfl rfl ?_
    refine g_iload_n (q := 2) C dX11_later_36 rfl rfl ?_
    obtain ⟨g1, h⟩ := h
    obtain ⟨g2, h⟩ := h
    obtain ⟨ht, hf⟩ := h
    refine g_icmp_ge (tgt := 72) C dX11_later_37 (by decide) g1 g2 (fun c => ?_) (fun c => ?_)
    · have h := ht c
      refine g_aload_n (q := 0) C dX11_later_72 rfl rfl ?_
      refine g_getS (v := 46) C fX11_42 dX11_later_73 kd_0 rfl ?_
      refine g_getS (v := 47) C fX11_186 dX11_later_76 kd_46 rfl ?_
      refine g_iload_n (q := 1) C dX11_later_79 rfl rfl ?_
      obtain ⟨g3, h⟩ := h
      refine g_iald C dX11_later_80 kd_47 ln_47 g3 ?_
      exact g_reti C hR dX11_later_81 h
    · have h := hf c
      refine g_aload_n (q := 0) C dX11_later_40 rfl rfl ?_
      refine g_getS (v := 57) C fX11_52 dX11_later_41 kd_0 rfl ?_
      refine g_aload_n (q := 0) C dX11_later_44 rfl rfl ?_
      obtain ⟨g4, h⟩ := h
      refine g_getM C fX11_28 dX11_later_45 kd_0 (kd_in g4 (by decide)).1 ?_
      refine g_aload_n (q := 0) C dX11_later_48 rfl rfl ?_
      refine g_getS (v := 46) C fX11_42 dX11_later_49 kd_0 rfl ?_
      refine g_cVv (As := [vR Y (M 0 2), vR Y 46]) C clX11_232 clvX10_goThrough dX11_later_52 kd_57 rfl (Nat.le_of_ble_eq_true rfl) rfl (by decide) (t_X10_goThrough (Cx.ok C) h) (fun M5 h => ?_)
      refine g_aload_n (q := 0) C dX11_later_55 rfl rfl ?_
      refine g_getS (v := 46) C fX11_42 dX11_later_56 kd_0 rfl ?_
      refine g_aload_n (q := 0) C dX11_later_59 rfl rfl ?_
      refine g_getS (v := 57) C fX11_52 dX11_later_60 kd_0 rfl ?_
      refine g_cVv (As := [vR Y 57]) C clX11_252 clvX6_passInto dX11_later_63 kd_46 rfl (Nat.le_of_ble_eq_true rfl) rfl (by decide) (t_X6_passInto (Cx.ok C) h) (fun M6 h => ?_)
      refine g_iinc (q := 3) (v := v3 + 1) (lv' := [(3, vI (v3 + 1)), (0, vR Y 0), (1, vI v1), (2, vI v2)]) C dX11_later_66 rfl rfl (by decide) rfl ?_
      refine g_goto (tgt := 35) C dX11_later_69 (by decide) ?_
      refine G.sub [1, 2, 3, 0] rfl ?_
      exact ih _ _ h
set_option maxRecDepth 20000 in
theorem w_X11_later_J20 {Y : YT} {X : CX} (C : Cx Y X cX11_later 4 RX11 7) {Q : Int → Mem → Prop} (hR : Rt Y X (some .int) (PQi Y Q))   {M : Mem}  (h : m_X11_later_J20  Q  M) : G Y X 4 20 [] ([]) M := by
  unfold m_X11_later_J20 at h
  refine g_iconst C dX11_later_20 rfl ?_
  exact g_reti C hR dX11_later_21 h
set_option maxRecDepth 20000 in
theorem t_X11_later {l : Launch} {Y : YT} (hY : YOK Y) {a0 : Int} {a1 : Int} {M : Mem} {Q : Int → Mem → Prop} (h : m_X11_later a0 a1 M Q) : Ctr l Y yX11_later cX11_later 4 (some .int) 7 [vR Y 0, vI a0, vI a1] M (PQi Y Q) := by
  unfold m_X11_later at h
  refine ctr_ofF hY (by decide +kernel) (Nat.le_of_ble_eq_true rfl) [(0, vR Y 0), (1, vI a0), (2, vI a1)] rfl (fun X hX C hR => ?_)
  refine g_aload_n (q := 0) C dX11_later_0 rfl rfl ?_
  refine g_iload_n (q := 1) C dX11_later_1 rfl rfl ?_
  refine g_cVi (As := [vI a0]) C clX11_177 clvX11_isPerson dX11_later_2 kd_0 rfl (Nat.le_of_ble_eq_true rfl) rfl (by decide) (t_X11_isPerson (Cx.ok C) h) (fun r8 M7 h => ?_)
  obtain ⟨g9, h⟩ := h
  obtain ⟨ht, hf⟩ := h
  refine g_if_eq (tgt := 20) C dX11_later_5 (by decide) g9 (fun c => ?_) (fun c => ?_)
  · have h := ht c
    refine G.sub [] rfl ?_
    exact w_X11_later_J20 C hR  h
  · have h := hf c
    refine g_iload_n (q := 2) C dX11_later_8 rfl rfl ?_
    obtain ⟨g10, h⟩ := h
    obtain ⟨ht, hf⟩ := h
    refine g_if_lt (tgt := 20) C dX11_later_9 (by decide) g10 (fun c => ?_) (fun c => ?_)
    · have h := ht c
      refine G.sub [] rfl ?_
      exact w_X11_later_J20 C hR  h
    · have h := hf c
      refine g_iload_n (q := 2) C dX11_later_12 rfl rfl ?_
      refine g_aload_n (q := 0) C dX11_later_13 rfl rfl ?_
      refine g_cVi (As := []) C clX11_249 clvX11_daysAhead dX11_later_14 kd_0 rfl (Nat.le_of_ble_eq_true rfl) rfl (by decide) (t_X11_daysAhead (Cx.ok C) h) (fun r12 M11 h => ?_)
      obtain ⟨g13, h⟩ := h
      obtain ⟨g14, h⟩ := h
      obtain ⟨ht, hf⟩ := h
      refine g_icmp_le (tgt := 22) C dX11_later_17 (by decide) g13 g14 (fun c => ?_) (fun c => ?_)
      · have h := ht c
        refine g_aload_n (q := 0) C dX11_later_22 rfl rfl ?_
        refine g_getS (v := 46) C fX11_42 dX11_later_23 kd_0 rfl ?_
        refine g_aload_n (q := 0) C dX11_later_26 rfl rfl ?_
        refine g_getS (v := 40) C fX11_38 dX11_later_27 kd_0 rfl ?_
        refine g_cVv (As := [vR Y 40]) C clX11_224 clvX6_copy dX11_later_30 kd_46 rfl (Nat.le_of_ble_eq_true rfl) rfl (by decide) (t_X6_copy (Cx.ok C) h) (fun M15 h => ?_)
        refine g_iconst C dX11_later_33 rfl ?_
        refine g_istore_n (lv' := [(3, vI 0), (0, vR Y 0), (1, vI a0), (2, vI a1)]) C dX11_later_34 rfl (by decide) rfl ?_
        obtain ⟨f0, h⟩ := h
        refine G.sub [1, 2, 3, 0] rfl ?_
        exact w_X11_later_L35 C hR  f0 _ _ h
      · have h := hf c
        refine G.sub [] rfl ?_
        exact w_X11_later_J20 C hR  h
set_option maxRecDepth 20000 in
theorem w_X11_meet_L42 {Y : YT} {X : CX} (C : Cx Y X cX11_meet 5 RX11 7) {Q : Int → Mem → Prop} (hR : Rt Y X (some .int) (PQi Y Q)) {v1 : Int} {v2 : Int} {v3 : Int}  : ∀ (f : Nat) (v4 : Int) (M : Mem), m_X11_meet_L42  Q v1 v2 v3 f v4 M → G Y X 5 42 [(0, vR Y 0), (1, vI v1), (2, vI v2), (3, vI v3), (4, vI v4)] ([]) M := by
  intro f
  induction f with
  | zero =>
    intro v4 M h
    exact (show False from h).elim
  | succ f ih =>
    intro v4 M h
    unfold m_X11_meet_L42 at h
    refine g_iload (q := 4) C dX11_meet_42 rfl ?_
    refine g_iload_n (q := 3) C dX11_meet_44 rfl rfl ?_
    obtain ⟨g1, h⟩ := h
    obtain ⟨g2, h⟩ := h
    obtain ⟨ht, hf⟩ := h
    refine g_icmp_gt (tgt := 95) C dX11_meet_45 (by decide) g1 g2 (fun c => ?_) (fun c => ?_)
    · have h := ht c
      refine g_iconst C dX11_meet_95 rfl ?_
      exact g_reti C hR dX11_meet_96 h
    · have h := hf c
      refine g_aload_n (q := 0) C dX11_meet_48 rfl rfl ?_
      refine g_getS (v := 57) C fX11_52 dX11_meet_49 kd_0 rfl ?_
      refine g_aload_n (q := 0) C dX11_meet_52 rfl rfl ?_
      obtain ⟨g3, h⟩ := h
      refine g_getM C fX11_28 dX11_meet_53 kd_0 (kd_in g3 (by decide)).1 ?_
      refine g_aload_n (q := 0) C dX11_meet_56 rfl rfl ?_
      refine g_getS (v := 46) C fX11_42 dX11_meet_57 kd_0 rfl ?_
      refine g_cVv (As := [vR Y (M 0 2), vR Y 46]) C clX11_232 clvX10_goThrough dX11_meet_60 kd_57 rfl (Nat.le_of_ble_eq_true rfl) rfl (by decide) (t_X10_goThrough (Cx.ok C) h) (fun M4 h => ?_)
      refine g_aload_n (q := 0) C dX11_meet_63 rfl rfl ?_
      refine g_getS (v := 57) C fX11_52 dX11_meet_64 kd_0 rfl ?_
      refine g_iload_n (q := 1) C dX11_meet_67 rfl rfl ?_
      refine g_iload_n (q := 2) C dX11_meet_68 rfl rfl ?_
      refine g_cVi (As := [vI v1, vI v2]) C clX11_256 clvX10_bringsTogether dX11_meet_69 kd_57 rfl (Nat.le_of_ble_eq_true rfl) rfl (by decide) (t_X10_bringsTogether (Cx.ok C) h) (fun r6 M5 h => ?_)
      obtain ⟨g7, h⟩ := h
      obtain ⟨ht, hf⟩ := h
      refine g_if_eq (tgt := 78) C dX11_meet_72 (by decide) g7 (fun c => ?_) (fun c => ?_)
      · have h := ht c
        refine g_aload_n (q := 0) C dX11_meet_78 rfl rfl ?_
        refine g_getS (v := 46) C fX11_42 dX11_meet_79 kd_0 rfl ?_
        refine g_aload_n (q := 0) C dX11_meet_82 rfl rfl ?_
        refine g_getS (v := 57) C fX11_52 dX11_meet_83 kd_0 rfl ?_
        refine g_cVv (As := [vR Y 57]) C clX11_252 clvX6_passInto dX11_meet_86 kd_46 rfl (Nat.le_of_ble_eq_true rfl) rfl (by decide) (t_X6_passInto (Cx.ok C) h) (fun M8 h => ?_)
        refine g_iinc (q := 4) (v := v4 + 1) (lv' := [(4, vI (v4 + 1)), (0, vR Y 0), (1, vI v1), (2, vI v2), (3, vI v3)]) C dX11_meet_89 rfl rfl (by decide) rfl ?_
        refine g_goto (tgt := 42) C dX11_meet_92 (by decide) ?_
        refine G.sub [1, 2, 3, 4, 0] rfl ?_
        exact ih _ _ h
      · have h := hf c
        refine g_iload (q := 4) C dX11_meet_75 rfl ?_
        exact g_reti C hR dX11_meet_77 h
set_option maxRecDepth 20000 in
theorem w_X11_meet_J21 {Y : YT} {X : CX} (C : Cx Y X cX11_meet 5 RX11 7) {Q : Int → Mem → Prop} (hR : Rt Y X (some .int) (PQi Y Q))   {M : Mem}  (h : m_X11_meet_J21  Q  M) : G Y X 5 21 [] ([]) M := by
  unfold m_X11_meet_J21 at h
  refine g_iconst C dX11_meet_21 rfl ?_
  exact g_reti C hR dX11_meet_22 h
set_option maxRecDepth 20000 in
theorem t_X11_meet {l : Launch} {Y : YT} (hY : YOK Y) {a0 : Int} {a1 : Int} {M : Mem} {Q : Int → Mem → Prop} (h : m_X11_meet a0 a1 M Q) : Ctr l Y yX11_meet cX11_meet 5 (some .int) 7 [vR Y 0, vI a0, vI a1] M (PQi Y Q) := by
  unfold m_X11_meet at h
  refine ctr_ofF hY (by decide +kernel) (Nat.le_of_ble_eq_true rfl) [(0, vR Y 0), (1, vI a0), (2, vI a1)] rfl (fun X hX C hR => ?_)
  refine g_aload_n (q := 0) C dX11_meet_0 rfl rfl ?_
  refine g_iload_n (q := 1) C dX11_meet_1 rfl rfl ?_
  refine g_cVi (As := [vI a0]) C clX11_177 clvX11_isPerson dX11_meet_2 kd_0 rfl (Nat.le_of_ble_eq_true rfl) rfl (by decide) (t_X11_isPerson (Cx.ok C) h) (fun r10 M9 h => ?_)
  obtain ⟨g11, h⟩ := h
  obtain ⟨ht, hf⟩ := h
  refine g_if_eq (tgt := 21) C dX11_meet_5 (by decide) g11 (fun c => ?_) (fun c => ?_)
  · have h := ht c
    refine G.sub [] rfl ?_
    exact w_X11_meet_J21 C hR  h
  · have h := hf c
    refine g_aload_n (q := 0) C dX11_meet_8 rfl rfl ?_
    refine g_iload_n (q := 2) C dX11_meet_9 rfl rfl ?_
    refine g_cVi (As := [vI a1]) C clX11_177 clvX11_isPerson dX11_meet_10 kd_0 rfl (Nat.le_of_ble_eq_true rfl) rfl (by decide) (t_X11_isPerson (Cx.ok C) h) (fun r13 M12 h => ?_)
    obtain ⟨g14, h⟩ := h
    obtain ⟨ht, hf⟩ := h
    refine g_if_eq (tgt := 21) C dX11_meet_13 (by decide) g14 (fun c => ?_) (fun c => ?_)
    · have h := ht c
      refine G.sub [] rfl ?_
      exact w_X11_meet_J21 C hR  h
    · have h := hf c
      refine g_iload_n (q := 1) C dX11_meet_16 rfl rfl ?_
      refine g_iload_n (q := 2) C dX11_meet_17 rfl rfl ?_
      obtain ⟨g15, h⟩ := h
      obtain ⟨g16, h⟩ := h
      obtain ⟨ht, hf⟩ := h
      refine g_icmp_ne (tgt := 23) C dX11_meet_18 (by decide) g15 g16 (fun c => ?_) (fun c => ?_)
      · have h := hf c
        refine g_aload_n (q := 0) C dX11_meet_23 rfl rfl ?_
        refine g_cVi (As := []) C clX11_249 clvX11_daysAhead dX11_meet_24 kd_0 rfl (Nat.le_of_ble_eq_true rfl) rfl (by decide) (t_X11_daysAhead (Cx.ok C) h) (fun r18 M17 h => ?_)
        refine g_istore_n (lv' := [(3, vI r18), (0, vR Y 0), (1, vI a0), (2, vI a1)]) C dX11_meet_27 rfl (by decide) rfl ?_
        refine g_aload_n (q := 1) C dX11_meet_28 rfl rfl ?_
        refine g_getS (v := 46) C fX11_42 dX11_meet_29 kd_0 rfl ?_
        refine g_aload_n (q := 1) C dX11_meet_32 rfl rfl ?_
        refine g_getS (v := 40) C fX11_38 dX11_meet_33 kd_0 rfl ?_
        refine g_cVv (As := [vR Y 40]) C clX11_224 clvX6_copy dX11_meet_36 kd_46 rfl (Nat.le_of_ble_eq_true rfl) rfl (by decide) (t_X6_copy (Cx.ok C) h) (fun M19 h => ?_)
        refine g_iconst C dX11_meet_39 rfl ?_
        refine g_istore (lv' := [(4, vI 1), (3, vI r18), (0, vR Y 0), (1, vI a0), (2, vI a1)]) C dX11_meet_40 (by decide) rfl ?_
        obtain ⟨f0, h⟩ := h
        refine G.sub [2, 3, 4, 1, 0] rfl ?_
        exact w_X11_meet_L42 C hR  f0 _ _ h
      · have h := ht c
        refine G.sub [] rfl ?_
        exact w_X11_meet_J21 C hR  h
set_option maxRecDepth 20000 in
theorem w_X11_round_L18 {Y : YT} {X : CX} (C : Cx Y X cX11_round 3 RX11 7) {Q : Int → Mem → Prop} (hR : Rt Y X (some .int) (PQi Y Q)) {v1 : Int}  : ∀ (f : Nat) (v2 : Int) (M : Mem), m_X11_round_L18  Q v1 f v2 M → G Y X 3 18 [(0, vR Y 0), (1, vI v1), (2, vI v2)] ([]) M := by
  intro f
  induction f with
  | zero =>
    intro v2 M h
    exact (show False from h).elim
  | succ f ih =>
    intro v2 M h
    unfold m_X11_round_L18 at h
    refine g_iload_n (q := 2) C dX11_round_18 rfl rfl ?_
    refine g_iload_n (q := 1) C dX11_round_19 rfl rfl ?_
    obtain ⟨g1, h⟩ := h
    obtain ⟨g2, h⟩ := h
    obtain ⟨ht, hf⟩ := h
    refine g_icmp_gt (tgt := 78) C dX11_round_20 (by decide) g1 g2 (fun c => ?_) (fun c => ?_)
    · have h := ht c
      refine g_iconst C dX11_round_78 rfl ?_
      exact g_reti C hR dX11_round_79 h
    · have h := hf c
      refine g_aload_n (q := 0) C dX11_round_23 rfl rfl ?_
      refine g_getS (v := 57) C fX11_52 dX11_round_24 kd_0 rfl ?_
      refine g_aload_n (q := 0) C dX11_round_27 rfl rfl ?_
      obtain ⟨g3, h⟩ := h
      refine g_getM C fX11_28 dX11_round_28 kd_0 (kd_in g3 (by decide)).1 ?_
      refine g_aload_n (q := 0) C dX11_round_31 rfl rfl ?_
      refine g_getS (v := 46) C fX11_42 dX11_round_32 kd_0 rfl ?_
      refine g_cVv (As := [vR Y (M 0 2), vR Y 46]) C clX11_232 clvX10_goThrough dX11_round_35 kd_57 rfl (Nat.le_of_ble_eq_true rfl) rfl (by decide) (t_X10_goThrough (Cx.ok C) h) (fun M4 h => ?_)
      refine g_aload_n (q := 0) C dX11_round_38 rfl rfl ?_
      refine g_getS (v := 46) C fX11_42 dX11_round_39 kd_0 rfl ?_
      refine g_aload_n (q := 0) C dX11_round_42 rfl rfl ?_
      refine g_getS (v := 57) C fX11_52 dX11_round_43 kd_0 rfl ?_
      refine g_cVv (As := [vR Y 57]) C clX11_252 clvX6_passInto dX11_round_46 kd_46 rfl (Nat.le_of_ble_eq_true rfl) rfl (by decide) (t_X6_passInto (Cx.ok C) h) (fun M5 h => ?_)
      refine g_aload_n (q := 0) C dX11_round_49 rfl rfl ?_
      refine g_getS (v := 46) C fX11_42 dX11_round_50 kd_0 rfl ?_
      refine g_aload_n (q := 0) C dX11_round_53 rfl rfl ?_
      refine g_getS (v := 40) C fX11_38 dX11_round_54 kd_0 rfl ?_
      refine g_aload_n (q := 0) C dX11_round_57 rfl rfl ?_
      obtain ⟨g6, h⟩ := h
      refine g_getM C fX11_28 dX11_round_58 kd_0 (kd_in g6 (by decide)).1 ?_
      refine g_getI C fX11_129 (by decide) dX11_round_61 g6 ?_
      refine g_cVi (As := [vR Y 40, vI (M5 (M5 0 2) 5)]) C clX11_260 clvX6_hasSpotsOf dX11_round_64 kd_46 rfl (Nat.le_of_ble_eq_true rfl) rfl (by decide) (t_X6_hasSpotsOf (Cx.ok C) h) (fun r8 M7 h => ?_)
      obtain ⟨g9, h⟩ := h
      obtain ⟨ht, hf⟩ := h
      refine g_if_eq (tgt := 72) C dX11_round_67 (by decide) g9 (fun c => ?_) (fun c => ?_)
      · have h := ht c
        refine g_iinc (q := 2) (v := v2 + 1) (lv' := [(2, vI (v2 + 1)), (0, vR Y 0), (1, vI v1)]) C dX11_round_72 rfl rfl (by decide) rfl ?_
        refine g_goto (tgt := 18) C dX11_round_75 (by decide) ?_
        refine G.sub [1, 2, 0] rfl ?_
        exact ih _ _ h
      · have h := hf c
        refine g_iload_n (q := 2) C dX11_round_70 rfl rfl ?_
        exact g_reti C hR dX11_round_71 h
set_option maxRecDepth 20000 in
theorem t_X11_round {l : Launch} {Y : YT} (hY : YOK Y) {M : Mem} {Q : Int → Mem → Prop} (h : m_X11_round  M Q) : Ctr l Y yX11_round cX11_round 3 (some .int) 7 [vR Y 0] M (PQi Y Q) := by
  unfold m_X11_round at h
  refine ctr_ofF hY (by decide +kernel) (Nat.le_of_ble_eq_true rfl) [(0, vR Y 0)] rfl (fun X hX C hR => ?_)
  refine g_aload_n (q := 0) C dX11_round_0 rfl rfl ?_
  refine g_cVi (As := []) C clX11_249 clvX11_daysAhead dX11_round_1 kd_0 rfl (Nat.le_of_ble_eq_true rfl) rfl (by decide) (t_X11_daysAhead (Cx.ok C) h) (fun r11 M10 h => ?_)
  refine g_istore_n (lv' := [(1, vI r11), (0, vR Y 0)]) C dX11_round_4 rfl (by decide) rfl ?_
  refine g_aload_n (q := 1) C dX11_round_5 rfl rfl ?_
  refine g_getS (v := 46) C fX11_42 dX11_round_6 kd_0 rfl ?_
  refine g_aload_n (q := 1) C dX11_round_9 rfl rfl ?_
  refine g_getS (v := 40) C fX11_38 dX11_round_10 kd_0 rfl ?_
  refine g_cVv (As := [vR Y 40]) C clX11_224 clvX6_copy dX11_round_13 kd_46 rfl (Nat.le_of_ble_eq_true rfl) rfl (by decide) (t_X6_copy (Cx.ok C) h) (fun M12 h => ?_)
  refine g_iconst C dX11_round_16 rfl ?_
  refine g_istore_n (lv' := [(2, vI 1), (1, vI r11), (0, vR Y 0)]) C dX11_round_17 rfl (by decide) rfl ?_
  obtain ⟨f0, h⟩ := h
  refine G.sub [2, 1, 0] rfl ?_
  exact w_X11_round_L18 C hR  f0 _ _ h
set_option maxRecDepth 20000 in
theorem w_X11_see_J43 {Y : YT} {X : CX} (C : Cx Y X cX11_see 2 RX11 3) {Q : Int → Mem → Prop} (hR : Rt Y X (some .int) (PQi Y Q)) {s0 : Int}  {M : Mem}  (h : m_X11_see_J43  Q s0 M) : G Y X 2 43 [] ((vI s0) :: []) M := by
  unfold m_X11_see_J43 at h
  exact g_reti C hR dX11_see_43 h
set_option maxRecDepth 20000 in
theorem t_X11_see {l : Launch} {Y : YT} (hY : YOK Y) {M : Mem} {Q : Int → Mem → Prop} (h : m_X11_see  M Q) : Ctr l Y yX11_see cX11_see 2 (some .int) 3 [vR Y 0] M (PQi Y Q) := by
  unfold m_X11_see at h
  refine ctr_ofF hY (by decide +kernel) (Nat.le_of_ble_eq_true rfl) [(0, vR Y 0)] rfl (fun X hX C hR => ?_)
  refine g_aload_n (q := 0) C dX11_see_0 rfl rfl ?_
  refine g_getS (v := 187) C fX11_72 dX11_see_1 kd_0 rfl ?_
  refine g_aload_n (q := 0) C dX11_see_4 rfl rfl ?_
  refine g_getS (v := 1) C fX11_10 dX11_see_5 kd_0 rfl ?_
  refine g_aload_n (q := 0) C dX11_see_8 rfl rfl ?_
  obtain ⟨g1, h⟩ := h
  refine g_getM C fX11_28 dX11_see_9 kd_0 (kd_in g1 (by decide)).1 ?_
  refine g_cVi (As := [vR Y 1, vR Y (M 0 2)]) C clX11_264 clvX0_takeRows dX11_see_12 kd_187 rfl (Nat.le_of_ble_eq_true rfl) rfl (by decide) (t_X0_takeRows (Cx.ok C) h) (fun r3 M2 h => ?_)
  refine g_istore_n (lv' := [(1, vI r3), (0, vR Y 0)]) C dX11_see_15 rfl (by decide) rfl ?_
  refine g_aload_n (q := 1) C dX11_see_16 rfl rfl ?_
  refine g_getS (v := 1) C fX11_10 dX11_see_17 kd_0 rfl ?_
  refine g_iconst C dX11_see_20 rfl ?_
  obtain ⟨M4, e_M4⟩ : ∃ z : Mem, z = up M2 1 1 0 := ⟨_, rfl⟩
  have h := h M4 e_M4
  refine g_putI C fX11_84 pX11_84 dX11_see_21 kd_1 e_M4 ?_
  refine g_iload_n (q := 0) C dX11_see_24 rfl rfl ?_
  obtain ⟨g5, h⟩ := h
  obtain ⟨ht, hf⟩ := h
  refine g_if_eq (tgt := 38) C dX11_see_25 (by decide) g5 (fun c => ?_) (fun c => ?_)
  · have h := ht c
    refine g_aload_n (q := 1) C dX11_see_38 rfl rfl ?_
    refine g_iconst C dX11_see_39 rfl ?_
    refine g_cVi (As := [vI 5]) C clX11_87 clvX11_refuse dX11_see_40 kd_0 rfl (Nat.le_of_ble_eq_true rfl) rfl (by decide) (t_X11_refuse (Cx.ok C) h) (fun r7 M6 h => ?_)
    refine G.sub [] rfl ?_
    exact w_X11_see_J43 C hR  h
  · have h := hf c
    refine g_aload_n (q := 1) C dX11_see_28 rfl rfl ?_
    refine g_getS (v := 187) C fX11_72 dX11_see_29 kd_0 rfl ?_
    refine g_getI C fX11_110 (by decide) dX11_see_32 kd_187 ?_
    refine g_goto (tgt := 43) C dX11_see_35 (by decide) ?_
    refine G.sub [] rfl ?_
    exact w_X11_see_J43 C hR  h
set_option maxRecDepth 20000 in
theorem w_X11_findBeginnings_L20 {Y : YT} {X : CX} (C : Cx Y X cX11_findBeginnings 3 RX11 7) {Q : Mem → Prop} (hR : Rt Y X none (PQv Y Q)) {v1 : Int}  : ∀ (f : Nat) (v2 : Int) (M : Mem), m_X11_findBeginnings_L20  Q v1 f v2 M → G Y X 3 20 [(0, vR Y 0), (1, vI v1), (2, vI v2)] ([]) M := by
  intro f
  induction f with
  | zero =>
    intro v2 M h
    exact (show False from h).elim
  | succ f ih =>
    intro v2 M h
    unfold m_X11_findBeginnings_L20 at h
    refine g_iload_n (q := 2) C dX11_findBeginnings_20 rfl rfl ?_
    refine g_aload_n (q := 0) C dX11_findBeginnings_21 rfl rfl ?_
    obtain ⟨g1, h⟩ := h
    refine g_getM C fX11_28 dX11_findBeginnings_22 kd_0 (kd_in g1 (by decide)).1 ?_
    refine g_getI C fX11_123 (by decide) dX11_findBeginnings_25 g1 ?_
    obtain ⟨g2, h⟩ := h
    obtain ⟨g3, h⟩ := h
    obtain ⟨ht, hf⟩ := h
    refine g_icmp_ge (tgt := 74) C dX11_findBeginnings_28 (by decide) g2 g3 (fun c => ?_) (fun c => ?_)
    · have h := ht c
      refine g_aload_n (q := 0) C dX11_findBeginnings_74 rfl rfl ?_
      refine g_getS (v := 187) C fX11_72 dX11_findBeginnings_75 kd_0 rfl ?_
      refine g_aload_n (q := 0) C dX11_findBeginnings_78 rfl rfl ?_
      obtain ⟨g4, h⟩ := h
      refine g_getM C fX11_28 dX11_findBeginnings_79 kd_0 (kd_in g4 (by decide)).1 ?_
      refine g_getI C fX11_123 (by decide) dX11_findBeginnings_82 g4 ?_
      refine g_cVv (As := [vI (M (M 0 2) 0)]) C clX11_334 clvX0_findTelling dX11_findBeginnings_85 kd_187 rfl (Nat.le_of_ble_eq_true rfl) rfl (by decide) (t_X0_findTelling (Cx.ok C) h) (fun M5 h => ?_)
      exact g_retv C hR dX11_findBeginnings_88 h
    · have h := hf c
      refine g_aload_n (q := 0) C dX11_findBeginnings_31 rfl rfl ?_
      refine g_getS (v := 46) C fX11_42 dX11_findBeginnings_32 kd_0 rfl ?_
      refine g_getS (v := 47) C fX11_186 dX11_findBeginnings_35 kd_46 rfl ?_
      refine g_iload_n (q := 1) C dX11_findBeginnings_38 rfl rfl ?_
      refine g_iload_n (q := 2) C dX11_findBeginnings_39 rfl rfl ?_
      obtain ⟨g6, h⟩ := h
      obtain ⟨M7, e_M7⟩ : ∃ z : Mem, z = up M 47 v1 v2 := ⟨_, rfl⟩
      have h := h M7 e_M7
      refine g_iast C dX11_findBeginnings_40 kd_47 ln_47 g6 e_M7 ?_
      refine g_aload_n (q := 0) C dX11_findBeginnings_41 rfl rfl ?_
      refine g_getS (v := 57) C fX11_52 dX11_findBeginnings_42 kd_0 rfl ?_
      refine g_aload_n (q := 0) C dX11_findBeginnings_45 rfl rfl ?_
      obtain ⟨g8, h⟩ := h
      refine g_getM C fX11_28 dX11_findBeginnings_46 kd_0 (kd_in g8 (by decide)).1 ?_
      refine g_aload_n (q := 0) C dX11_findBeginnings_49 rfl rfl ?_
      refine g_getS (v := 46) C fX11_42 dX11_findBeginnings_50 kd_0 rfl ?_
      refine g_cVv (As := [vR Y (M7 0 2), vR Y 46]) C clX11_232 clvX10_goThrough dX11_findBeginnings_53 kd_57 rfl (Nat.le_of_ble_eq_true rfl) rfl (by decide) (t_X10_goThrough (Cx.ok C) h) (fun M9 h => ?_)
      refine g_aload_n (q := 0) C dX11_findBeginnings_56 rfl rfl ?_
      refine g_getS (v := 187) C fX11_72 dX11_findBeginnings_57 kd_0 rfl ?_
      refine g_iload_n (q := 2) C dX11_findBeginnings_60 rfl rfl ?_
      refine g_aload_n (q := 0) C dX11_findBeginnings_61 rfl rfl ?_
      refine g_getS (v := 57) C fX11_52 dX11_findBeginnings_62 kd_0 rfl ?_
      refine g_cVv (As := [vI v2, vR Y 57]) C clX11_330 clvX0_weigh dX11_findBeginnings_65 kd_187 rfl (Nat.le_of_ble_eq_true rfl) rfl (by decide) (t_X0_weigh (Cx.ok C) h) (fun M10 h => ?_)
      refine g_iinc (q := 2) (v := v2 + 1) (lv' := [(2, vI (v2 + 1)), (0, vR Y 0), (1, vI v1)]) C dX11_findBeginnings_68 rfl rfl (by decide) rfl ?_
      refine g_goto (tgt := 20) C dX11_findBeginnings_71 (by decide) ?_
      refine G.sub [1, 2, 0] rfl ?_
      exact ih _ _ h
set_option maxRecDepth 20000 in
theorem t_X11_findBeginnings {l : Launch} {Y : YT} (hY : YOK Y) {a0 : Int} {M : Mem} {Q : Mem → Prop} (h : m_X11_findBeginnings a0 M Q) : Ctr l Y yX11_findBeginnings cX11_findBeginnings 3 none 7 [vR Y 0, vI a0] M (PQv Y Q) := by
  unfold m_X11_findBeginnings at h
  refine ctr_ofF hY (by decide +kernel) (Nat.le_of_ble_eq_true rfl) [(0, vR Y 0), (1, vI a0)] rfl (fun X hX C hR => ?_)
  refine g_aload_n (q := 0) C dX11_findBeginnings_0 rfl rfl ?_
  refine g_getS (v := 187) C fX11_72 dX11_findBeginnings_1 kd_0 rfl ?_
  refine g_cVv (As := []) C clX11_327 clvX0_clear dX11_findBeginnings_4 kd_187 rfl (Nat.le_of_ble_eq_true rfl) rfl (by decide) (t_X0_clear (Cx.ok C) h) (fun M11 h => ?_)
  refine g_aload_n (q := 0) C dX11_findBeginnings_7 rfl rfl ?_
  refine g_getS (v := 46) C fX11_42 dX11_findBeginnings_8 kd_0 rfl ?_
  refine g_aload_n (q := 0) C dX11_findBeginnings_11 rfl rfl ?_
  refine g_getS (v := 40) C fX11_38 dX11_findBeginnings_12 kd_0 rfl ?_
  refine g_cVv (As := [vR Y 40]) C clX11_224 clvX6_copy dX11_findBeginnings_15 kd_46 rfl (Nat.le_of_ble_eq_true rfl) rfl (by decide) (t_X6_copy (Cx.ok C) h) (fun M12 h => ?_)
  refine g_iconst C dX11_findBeginnings_18 rfl ?_
  refine g_istore_n (lv' := [(2, vI 0), (0, vR Y 0), (1, vI a0)]) C dX11_findBeginnings_19 rfl (by decide) rfl ?_
  obtain ⟨f0, h⟩ := h
  refine G.sub [1, 2, 0] rfl ?_
  exact w_X11_findBeginnings_L20 C hR  f0 _ _ h
set_option maxRecDepth 20000 in
theorem w_X11_began_J17 {Y : YT} {X : CX} (C : Cx Y X cX11_began 3 RX11 8) {Q : Int → Mem → Prop} (hR : Rt Y X (some .int) (PQi Y Q))   {M : Mem}  (h : m_X11_began_J17  Q  M) : G Y X 3 17 [] ([]) M := by
  unfold m_X11_began_J17 at h
  refine g_iconst C dX11_began_17 rfl ?_
  exact g_reti C hR dX11_began_18 h
set_option maxRecDepth 20000 in
theorem t_X11_began {l : Launch} {Y : YT} (hY : YOK Y) {a0 : Int} {a1 : Int} {M : Mem} {Q : Int → Mem → Prop} (h : m_X11_began a0 a1 M Q) : Ctr l Y yX11_began cX11_began 3 (some .int) 8 [vR Y 0, vI a0, vI a1] M (PQi Y Q) := by
  unfold m_X11_began at h
  refine ctr_ofF hY (by decide +kernel) (Nat.le_of_ble_eq_true rfl) [(0, vR Y 0), (1, vI a0), (2, vI a1)] rfl (fun X hX C hR => ?_)
  refine g_aload_n (q := 0) C dX11_began_0 rfl rfl ?_
  refine g_iload_n (q := 1) C dX11_began_1 rfl rfl ?_
  refine g_cVi (As := [vI a0]) C clX11_177 clvX11_isPerson dX11_began_2 kd_0 rfl (Nat.le_of_ble_eq_true rfl) rfl (by decide) (t_X11_isPerson (Cx.ok C) h) (fun r2 M1 h => ?_)
  obtain ⟨g3, h⟩ := h
  obtain ⟨ht, hf⟩ := h
  refine g_if_eq (tgt := 17) C dX11_began_5 (by decide) g3 (fun c => ?_) (fun c => ?_)
  · have h := ht c
    refine G.sub [] rfl ?_
    exact w_X11_began_J17 C hR  h
  · have h := hf c
    refine g_iload_n (q := 2) C dX11_began_8 rfl rfl ?_
    obtain ⟨g4, h⟩ := h
    obtain ⟨ht, hf⟩ := h
    refine g_if_lt (tgt := 17) C dX11_began_9 (by decide) g4 (fun c => ?_) (fun c => ?_)
    · have h := ht c
      refine G.sub [] rfl ?_
      exact w_X11_began_J17 C hR  h
    · have h := hf c
      refine g_iload_n (q := 2) C dX11_began_12 rfl rfl ?_
      refine g_iconst C dX11_began_13 rfl ?_
      obtain ⟨g5, h⟩ := h
      obtain ⟨ht, hf⟩ := h
      refine g_icmp_le (tgt := 19) C dX11_began_14 (by decide) g5 (by decide) (fun c => ?_) (fun c => ?_)
      · have h := ht c
        refine g_aload_n (q := 0) C dX11_began_19 rfl rfl ?_
        refine g_iload_n (q := 1) C dX11_began_20 rfl rfl ?_
        refine g_cVv (As := [vI a0]) C clX11_268 clvX11_findBeginnings dX11_began_21 kd_0 rfl (Nat.le_of_ble_eq_true rfl) rfl (by decide) (t_X11_findBeginnings (Cx.ok C) h) (fun M6 h => ?_)
        refine g_iload_n (q := 2) C dX11_began_24 rfl rfl ?_
        obtain ⟨g7, h⟩ := h
        refine G.nmI (x := a1) rfl ?_
        obtain ⟨c0, c1, c2, c3⟩ := h
        rcases (show (a1 = 0) ∨ (a1 = 1) ∨ (a1 = 2) ∨ (a1 < 0 ∨ 2 < a1) by omega) with q | q | q | q
        · have h := c0 q
          refine g_tswIn (off := 27) (tgt := 52) C dX11_began_25 g7 (by omega) (by omega) (by rw [q]; rfl) (by decide) ?_
          refine g_aload_n (q := 0) C dX11_began_52 rfl rfl ?_
          refine g_getS (v := 187) C fX11_72 dX11_began_53 kd_0 rfl ?_
          refine g_getI C fX11_271 (by decide) dX11_began_56 kd_187 ?_
          exact g_reti C hR dX11_began_59 h
        · have h := c1 q
          refine g_tswIn (off := 35) (tgt := 60) C dX11_began_25 g7 (by omega) (by omega) (by rw [q]; rfl) (by decide) ?_
          refine g_aload_n (q := 0) C dX11_began_60 rfl rfl ?_
          refine g_getS (v := 187) C fX11_72 dX11_began_61 kd_0 rfl ?_
          refine g_getI C fX11_274 (by decide) dX11_began_64 kd_187 ?_
          exact g_reti C hR dX11_began_67 h
        · have h := c2 q
          refine g_tswIn (off := 43) (tgt := 68) C dX11_began_25 g7 (by omega) (by omega) (by rw [q]; rfl) (by decide) ?_
          refine g_aload_n (q := 0) C dX11_began_68 rfl rfl ?_
          refine g_getS (v := 187) C fX11_72 dX11_began_69 kd_0 rfl ?_
          refine g_getI C fX11_277 (by decide) dX11_began_72 kd_187 ?_
          exact g_reti C hR dX11_began_75 h
        · have h := c3 q
          refine g_tswOut (tgt := 76) C dX11_began_25 g7 q (by decide) ?_
          refine g_aload_n (q := 0) C dX11_began_76 rfl rfl ?_
          refine g_getS (v := 187) C fX11_72 dX11_began_77 kd_0 rfl ?_
          refine g_getI C fX11_280 (by decide) dX11_began_80 kd_187 ?_
          exact g_reti C hR dX11_began_83 h
      · have h := hf c
        refine G.sub [] rfl ?_
        exact w_X11_began_J17 C hR  h
set_option maxRecDepth 20000 in
theorem t_X11_pass {l : Launch} {Y : YT} (hY : YOK Y) {a0 : Int} {M : Mem} {Q : Mem → Prop} (h : m_X11_pass a0 M Q) : Ctr l Y yX11_pass cX11_pass 2 none 5 [vR Y 0, vR Y a0] M (PQv Y Q) := by
  unfold m_X11_pass at h
  obtain ⟨hk_a0, h⟩ := h
  refine ctr_ofF hY (by decide +kernel) (Nat.le_of_ble_eq_true rfl) [(0, vR Y 0), (1, vR Y a0)] rfl (fun X hX C hR => ?_)
  refine g_aload_n (q := 0) C dX11_pass_0 rfl rfl ?_
  refine g_getS (v := 62) C fX11_58 dX11_pass_1 kd_0 rfl ?_
  refine g_aload_n (q := 0) C dX11_pass_4 rfl rfl ?_
  refine g_getS (v := 40) C fX11_38 dX11_pass_5 kd_0 rfl ?_
  refine g_aload_n (q := 1) C dX11_pass_8 rfl rfl ?_
  refine g_aload_n (q := 0) C dX11_pass_9 rfl rfl ?_
  refine g_getS (v := 40) C fX11_38 dX11_pass_10 kd_0 rfl ?_
  refine g_getS (v := 42) C fX11_135 dX11_pass_13 kd_40 rfl ?_
  refine g_cVi (As := [vR Y 42]) C clX11_156 clvX10_trueOnes dX11_pass_16 hk_a0 rfl (Nat.le_of_ble_eq_true rfl) rfl (by decide) (t_X10_trueOnes (Cx.ok C) h) (fun r2 M1 h => ?_)
  refine g_cVv (As := [vR Y 40, vI r2]) C clX11_337 clvX3_keep dX11_pass_19 kd_62 rfl (Nat.le_of_ble_eq_true rfl) rfl (by decide) (t_X3_keep (Cx.ok C) h) (fun M3 h => ?_)
  refine g_aload_n (q := 0) C dX11_pass_22 rfl rfl ?_
  refine g_getS (v := 40) C fX11_38 dX11_pass_23 kd_0 rfl ?_
  refine g_aload_n (q := 1) C dX11_pass_26 rfl rfl ?_
  refine g_cVv (As := [vR Y a0]) C clX11_252 clvX6_passInto dX11_pass_27 kd_40 rfl (Nat.le_of_ble_eq_true rfl) rfl (by decide) (t_X6_passInto (Cx.ok C) h) (fun M4 h => ?_)
  refine g_aload_n (q := 0) C dX11_pass_30 rfl rfl ?_
  refine g_iconst C dX11_pass_31 rfl ?_
  obtain ⟨M5, e_M5⟩ : ∃ z : Mem, z = up M4 0 8 0 := ⟨_, rfl⟩
  have h := h M5 e_M5
  refine g_putZ C fX11_113 pX11_113 dX11_pass_32 kd_0 (by decide) e_M5 ?_
  exact g_retv C hR dX11_pass_35 h
set_option maxRecDepth 20000 in
theorem w_X11_days_J66 {Y : YT} {X : CX} (C : Cx Y X cX11_days 5 RX11 8) {Q : Int → Mem → Prop} (hR : Rt Y X (some .int) (PQi Y Q)) {v1 : Int} {v3 : Int} {v4 : Int} {s0 : Int} {s1 : Int} {k34 : Int → Int → Mem → Prop} (hk34 : ∀ (v2 : Int) (v3 : Int)  (M : Mem), k34 v2 v3 M → G Y X 5 34 [(0, vR Y 0), (1, vI v1), (2, vI v2), (3, vI v3)] ([]) M) {M : Mem} (hk_v4 : kd v4 = 10) (h : m_X11_days_J66 k34 Q v1 v3 v4 s0 s1 M) : G Y X 5 66 [(0, vR Y 0), (1, vI v1), (3, vI v3), (4, vR Y v4)] ((vI s1) :: (vI s0) :: []) M := by
  unfold m_X11_days_J66 at h
  refine g_iadd C dX11_days_66 ?_
  refine g_istore_n (lv' := [(2, vI (s0 + s1)), (0, vR Y 0), (1, vI v1), (3, vI v3), (4, vR Y v4)]) C dX11_days_67 rfl (by decide) rfl ?_
  refine g_aload_n (q := 1) C dX11_days_68 rfl rfl ?_
  refine g_aload (q := 4) C dX11_days_69 rfl ?_
  refine g_cVv (As := [vR Y v4]) C clX11_286 clvX11_pass dX11_days_71 kd_0 rfl (Nat.le_of_ble_eq_true rfl) rfl (by decide) (t_X11_pass (Cx.ok C) h) (fun M1 h => ?_)
  refine g_iinc (q := 3) (v := v3 + 1) (lv' := [(3, vI (v3 + 1)), (2, vI (s0 + s1)), (0, vR Y 0), (1, vI v1), (4, vR Y v4)]) C dX11_days_74 rfl rfl (by decide) rfl ?_
  refine g_goto (tgt := 34) C dX11_days_77 (by decide) ?_
  refine G.sub [2, 3, 1, 0] rfl ?_
  exact hk34 _ _ _ h
set_option maxRecDepth 20000 in
theorem w_X11_days_L34 {Y : YT} {X : CX} (C : Cx Y X cX11_days 5 RX11 8) {Q : Int → Mem → Prop} (hR : Rt Y X (some .int) (PQi Y Q)) {v1 : Int}  : ∀ (f : Nat) (v2 : Int) (v3 : Int) (M : Mem), m_X11_days_L34  Q v1 f v2 v3 M → G Y X 5 34 [(0, vR Y 0), (1, vI v1), (2, vI v2), (3, vI v3)] ([]) M := by
  intro f
  induction f with
  | zero =>
    intro v2 v3 M h
    exact (show False from h).elim
  | succ f ih =>
    intro v2 v3 M h
    unfold m_X11_days_L34 at h
    refine g_iload_n (q := 3) C dX11_days_34 rfl rfl ?_
    refine g_iload_n (q := 1) C dX11_days_35 rfl rfl ?_
    obtain ⟨g2, h⟩ := h
    obtain ⟨g3, h⟩ := h
    obtain ⟨ht, hf⟩ := h
    refine g_icmp_ge (tgt := 80) C dX11_days_36 (by decide) g2 g3 (fun c => ?_) (fun c => ?_)
    · have h := ht c
      refine g_iload_n (q := 2) C dX11_days_80 rfl rfl ?_
      exact g_reti C hR dX11_days_81 h
    · have h := hf c
      refine g_aload_n (q := 0) C dX11_days_39 rfl rfl ?_
      refine g_cVr (As := []) C clX11_152 clvX11_thisDay dX11_days_40 kd_0 rfl (Nat.le_of_ble_eq_true rfl) rfl (by decide) (t_X11_thisDay (Cx.ok C) h) (fun r5 M4 h => ?_)
      obtain ⟨hk_r5, h⟩ := h
      refine g_astore (lv' := [(4, vR Y r5), (0, vR Y 0), (1, vI v1), (2, vI v2), (3, vI v3)]) C dX11_days_43 (by decide) rfl ?_
      refine g_iload_n (q := 3) C dX11_days_45 rfl rfl ?_
      refine g_aload (q := 0) C dX11_days_46 rfl ?_
      refine g_aload_n (q := 1) C dX11_days_48 rfl rfl ?_
      refine g_getS (v := 40) C fX11_38 dX11_days_49 kd_0 rfl ?_
      refine g_getS (v := 42) C fX11_135 dX11_days_52 kd_40 rfl ?_
      refine g_cVi (As := [vR Y 42]) C clX11_217 clvX10_agreesWith dX11_days_55 hk_r5 rfl (Nat.le_of_ble_eq_true rfl) rfl (by decide) (t_X10_agreesWith (Cx.ok C) h) (fun r7 M6 h => ?_)
      obtain ⟨g8, h⟩ := h
      obtain ⟨ht, hf⟩ := h
      refine g_if_eq (tgt := 65) C dX11_days_58 (by decide) g8 (fun c => ?_) (fun c => ?_)
      · have h := ht c
        refine g_iconst C dX11_days_65 rfl ?_
        refine G.sub [1, 2, 4, 0] rfl ?_
        exact w_X11_days_J66 C hR (ih) hk_r5 h
      · have h := hf c
        refine g_iconst C dX11_days_61 rfl ?_
        refine g_goto (tgt := 66) C dX11_days_62 (by decide) ?_
        refine G.sub [1, 2, 4, 0] rfl ?_
        exact w_X11_days_J66 C hR (ih) hk_r5 h
set_option maxRecDepth 20000 in
theorem w_X11_days_J13 {Y : YT} {X : CX} (C : Cx Y X cX11_days 5 RX11 8) {Q : Int → Mem → Prop} (hR : Rt Y X (some .int) (PQi Y Q))   {M : Mem}  (h : m_X11_days_J13  Q  M) : G Y X 5 13 [(0, vR Y 0)] ([]) M := by
  unfold m_X11_days_J13 at h
  refine g_aload_n (q := 0) C dX11_days_13 rfl rfl ?_
  refine g_iconst C dX11_days_14 rfl ?_
  refine g_cVi (As := [vI 2]) C clX11_87 clvX11_refuse dX11_days_15 kd_0 rfl (Nat.le_of_ble_eq_true rfl) rfl (by decide) (t_X11_refuse (Cx.ok C) h) (fun r10 M9 h => ?_)
  exact g_reti C hR dX11_days_18 h
set_option maxRecDepth 20000 in
theorem t_X11_days {l : Launch} {Y : YT} (hY : YOK Y) {a0 : Int} {M : Mem} {Q : Int → Mem → Prop} (h : m_X11_days a0 M Q) : Ctr l Y yX11_days cX11_days 5 (some .int) 8 [vR Y 0, vI a0] M (PQi Y Q) := by
  unfold m_X11_days at h
  refine ctr_ofF hY (by decide +kernel) (Nat.le_of_ble_eq_true rfl) [(0, vR Y 0), (1, vI a0)] rfl (fun X hX C hR => ?_)
  refine g_iload_n (q := 1) C dX11_days_0 rfl rfl ?_
  refine g_iconst C dX11_days_1 rfl ?_
  obtain ⟨g11, h⟩ := h
  obtain ⟨ht, hf⟩ := h
  refine g_icmp_lt (tgt := 13) C dX11_days_2 (by decide) g11 (by decide) (fun c => ?_) (fun c => ?_)
  · have h := ht c
    refine G.sub [0] rfl ?_
    exact w_X11_days_J13 C hR  h
  · have h := hf c
    refine g_iload_n (q := 1) C dX11_days_5 rfl rfl ?_
    refine g_aload_n (q := 0) C dX11_days_6 rfl rfl ?_
    refine g_cVi (As := []) C clX11_249 clvX11_daysAhead dX11_days_7 kd_0 rfl (Nat.le_of_ble_eq_true rfl) rfl (by decide) (t_X11_daysAhead (Cx.ok C) h) (fun r13 M12 h => ?_)
    obtain ⟨g14, h⟩ := h
    obtain ⟨g15, h⟩ := h
    obtain ⟨ht, hf⟩ := h
    refine g_icmp_le (tgt := 19) C dX11_days_10 (by decide) g14 g15 (fun c => ?_) (fun c => ?_)
    · have h := ht c
      refine g_aload_n (q := 0) C dX11_days_19 rfl rfl ?_
      refine g_getS (v := 62) C fX11_58 dX11_days_20 kd_0 rfl ?_
      refine g_aload_n (q := 0) C dX11_days_23 rfl rfl ?_
      refine g_getS (v := 40) C fX11_38 dX11_days_24 kd_0 rfl ?_
      refine g_cVv (As := [vR Y 40]) C clX11_283 clvX3_remember dX11_days_27 kd_62 rfl (Nat.le_of_ble_eq_true rfl) rfl (by decide) (t_X3_remember (Cx.ok C) h) (fun M16 h => ?_)
      refine g_iconst C dX11_days_30 rfl ?_
      refine g_istore_n (lv' := [(2, vI 0), (0, vR Y 0), (1, vI a0)]) C dX11_days_31 rfl (by decide) rfl ?_
      refine g_iconst C dX11_days_32 rfl ?_
      refine g_istore_n (lv' := [(3, vI 0), (2, vI 0), (0, vR Y 0), (1, vI a0)]) C dX11_days_33 rfl (by decide) rfl ?_
      obtain ⟨f0, h⟩ := h
      refine G.sub [2, 3, 1, 0] rfl ?_
      exact w_X11_days_L34 C hR  f0 _ _ _ h
    · have h := hf c
      refine G.sub [0] rfl ?_
      exact w_X11_days_J13 C hR  h
set_option maxRecDepth 20000 in
theorem w_X11_draw_J39 {Y : YT} {X : CX} (C : Cx Y X cX11_draw 2 RX11 1) {Q : Int → Mem → Prop} (hR : Rt Y X (some .int) (PQi Y Q)) {s0 : Int}  {M : Mem}  (h : m_X11_draw_J39  Q s0 M) : G Y X 2 39 [] ((vI s0) :: []) M := by
  unfold m_X11_draw_J39 at h
  exact g_reti C hR dX11_draw_39 h
set_option maxRecDepth 20000 in
theorem t_X11_draw {l : Launch} {Y : YT} (hY : YOK Y) {a0 : Int} {M : Mem} {Q : Int → Mem → Prop} (h : m_X11_draw a0 M Q) : Ctr l Y yX11_draw cX11_draw 2 (some .int) 1 [vR Y 0, vI a0] M (PQi Y Q) := by
  unfold m_X11_draw at h
  refine ctr_ofF hY (by decide +kernel) (Nat.le_of_ble_eq_true rfl) [(0, vR Y 0), (1, vI a0)] rfl (fun X hX C hR => ?_)
  refine g_aload_n (q := 0) C dX11_draw_0 rfl rfl ?_
  refine g_ldc2 (v := 1103515245) C dX11_draw_1 kX11_347 (by decide +kernel) ?_
  refine g_aload_n (q := 0) C dX11_draw_4 rfl rfl ?_
  refine g_getI C fX11_80 (by decide) dX11_draw_5 kd_0 ?_
  obtain ⟨g1, h⟩ := h
  refine g_i2l C dX11_draw_8 g1 ?_
  refine g_lmul C dX11_draw_9 ?_
  refine g_ldc2 (v := 12345) C dX11_draw_10 kX11_349 (by decide +kernel) ?_
  refine g_ladd C dX11_draw_13 ?_
  refine g_ldc2 (v := 2147483647) C dX11_draw_14 kX11_351 (by decide +kernel) ?_
  refine g_land C dX11_draw_17 ?_
  refine g_l2i C dX11_draw_18 ?_
  obtain ⟨M2, e_M2⟩ : ∃ z : Mem, z = up M 0 13 (wand ((1103515245 * (M 0 13)) + 12345) 2147483647) := ⟨_, rfl⟩
  have h := h M2 e_M2
  refine g_putI C fX11_80 pX11_80 dX11_draw_19 kd_0 e_M2 ?_
  refine g_iload_n (q := 1) C dX11_draw_22 rfl rfl ?_
  obtain ⟨g3, h⟩ := h
  obtain ⟨ht, hf⟩ := h
  refine g_if_le (tgt := 38) C dX11_draw_23 (by decide) g3 (fun c => ?_) (fun c => ?_)
  · have h := ht c
    refine g_iconst C dX11_draw_38 rfl ?_
    refine G.sub [] rfl ?_
    exact w_X11_draw_J39 C hR  h
  · have h := hf c
    refine g_aload_n (q := 0) C dX11_draw_26 rfl rfl ?_
    refine g_getI C fX11_80 (by decide) dX11_draw_27 kd_0 ?_
    refine g_bipush (v := 64) C dX11_draw_30 (by decide +kernel) ?_
    obtain ⟨g4, h⟩ := h
    refine g_idiv C dX11_draw_32 g4 (by decide) (by decide) ?_
    refine g_iload_n (q := 1) C dX11_draw_33 rfl rfl ?_
    obtain ⟨g5, h⟩ := h
    obtain ⟨g6, h⟩ := h
    obtain ⟨g7, h⟩ := h
    refine g_irem C dX11_draw_34 g5 g6 g7 ?_
    refine g_goto (tgt := 39) C dX11_draw_35 (by decide) ?_
    refine G.sub [] rfl ?_
    exact w_X11_draw_J39 C hR  h
set_option maxRecDepth 20000 in
theorem w_X11_rainCuts_J41 {Y : YT} {X : CX} (C : Cx Y X cX11_rainCuts 3 RX11 2) {Q : Int → Mem → Prop} (hR : Rt Y X (some .boolean) (PQi Y Q))   {M : Mem}  (h : m_X11_rainCuts_J41  Q  M) : G Y X 3 41 [] ([]) M := by
  unfold m_X11_rainCuts_J41 at h
  refine g_iconst C dX11_rainCuts_41 rfl ?_
  exact g_retz C hR dX11_rainCuts_42 (by decide) h
set_option maxRecDepth 20000 in
theorem w_X11_rainCuts_J21 {Y : YT} {X : CX} (C : Cx Y X cX11_rainCuts 3 RX11 2) {Q : Int → Mem → Prop} (hR : Rt Y X (some .boolean) (PQi Y Q)) {s0 : Int}  {M : Mem}  (h : m_X11_rainCuts_J21  Q s0 M) : G Y X 3 21 [(0, vR Y 0)] ((vI s0) :: []) M := by
  unfold m_X11_rainCuts_J21 at h
  refine g_istore_n (lv' := [(1, vI s0), (0, vR Y 0)]) C dX11_rainCuts_21 rfl (by decide) rfl ?_
  refine g_aload_n (q := 1) C dX11_rainCuts_22 rfl rfl ?_
  refine g_getS (v := 40) C fX11_38 dX11_rainCuts_23 kd_0 rfl ?_
  refine g_getS (v := 42) C fX11_135 dX11_rainCuts_26 kd_40 rfl ?_
  refine g_getI C fX11_139 (by decide) dX11_rainCuts_29 kd_42 ?_
  refine g_istore_n (lv' := [(2, vI (M 42 0)), (1, vI s0), (0, vR Y 0)]) C dX11_rainCuts_32 rfl (by decide) rfl ?_
  refine g_iload_n (q := 1) C dX11_rainCuts_33 rfl rfl ?_
  obtain ⟨g1, h⟩ := h
  obtain ⟨ht, hf⟩ := h
  refine g_if_eq (tgt := 41) C dX11_rainCuts_34 (by decide) g1 (fun c => ?_) (fun c => ?_)
  · have h := ht c
    refine G.sub [] rfl ?_
    exact w_X11_rainCuts_J41 C hR  h
  · have h := hf c
    refine g_iload_n (q := 0) C dX11_rainCuts_37 rfl rfl ?_
    obtain ⟨g2, h⟩ := h
    obtain ⟨ht, hf⟩ := h
    refine g_if_ne (tgt := 43) C dX11_rainCuts_38 (by decide) g2 (fun c => ?_) (fun c => ?_)
    · have h := hf c
      refine g_aload_n (q := 2) C dX11_rainCuts_43 rfl rfl ?_
      refine g_getS (v := 40) C fX11_38 dX11_rainCuts_44 kd_0 rfl ?_
      refine g_getS (v := 42) C fX11_135 dX11_rainCuts_47 kd_40 rfl ?_
      refine g_aload_n (q := 2) C dX11_rainCuts_50 rfl rfl ?_
      refine g_iload_n (q := 0) C dX11_rainCuts_51 rfl rfl ?_
      refine g_cVi (As := [vI (M 42 0)]) C clX11_341 clvX11_draw dX11_rainCuts_52 kd_0 rfl (Nat.le_of_ble_eq_true rfl) rfl (by decide) (t_X11_draw (Cx.ok C) h) (fun r4 M3 h => ?_)
      refine g_cVv (As := [vI r4]) C clX11_299 clvX5_remove dX11_rainCuts_55 kd_42 rfl (Nat.le_of_ble_eq_true rfl) rfl (by decide) (t_X5_remove (Cx.ok C) h) (fun M5 h => ?_)
      refine g_aload_n (q := 2) C dX11_rainCuts_58 rfl rfl ?_
      refine g_iconst C dX11_rainCuts_59 rfl ?_
      obtain ⟨M6, e_M6⟩ : ∃ z : Mem, z = up M5 0 8 0 := ⟨_, rfl⟩
      have h := h M6 e_M6
      refine g_putZ C fX11_113 pX11_113 dX11_rainCuts_60 kd_0 (by decide) e_M6 ?_
      refine g_iconst C dX11_rainCuts_63 rfl ?_
      exact g_retz C hR dX11_rainCuts_64 (by decide) h
    · have h := ht c
      refine G.sub [] rfl ?_
      exact w_X11_rainCuts_J41 C hR  h
set_option maxRecDepth 20000 in
theorem t_X11_rainCuts {l : Launch} {Y : YT} (hY : YOK Y) {M : Mem} {Q : Int → Mem → Prop} (h : m_X11_rainCuts  M Q) : Ctr l Y yX11_rainCuts cX11_rainCuts 3 (some .boolean) 2 [vR Y 0] M (PQi Y Q) := by
  unfold m_X11_rainCuts at h
  refine ctr_ofF hY (by decide +kernel) (Nat.le_of_ble_eq_true rfl) [(0, vR Y 0)] rfl (fun X hX C hR => ?_)
  refine g_aload_n (q := 0) C dX11_rainCuts_0 rfl rfl ?_
  refine g_bipush (v := 100) C dX11_rainCuts_1 (by decide +kernel) ?_
  refine g_cVi (As := [vI 100]) C clX11_341 clvX11_draw dX11_rainCuts_3 kd_0 rfl (Nat.le_of_ble_eq_true rfl) rfl (by decide) (t_X11_draw (Cx.ok C) h) (fun r8 M7 h => ?_)
  refine g_aload_n (q := 0) C dX11_rainCuts_6 rfl rfl ?_
  obtain ⟨g9, h⟩ := h
  refine g_getM C fX11_28 dX11_rainCuts_7 kd_0 (kd_in g9 (by decide)).1 ?_
  refine g_getI C fX11_344 (by decide) dX11_rainCuts_10 g9 ?_
  obtain ⟨g10, h⟩ := h
  obtain ⟨g11, h⟩ := h
  obtain ⟨ht, hf⟩ := h
  refine g_icmp_ge (tgt := 20) C dX11_rainCuts_13 (by decide) g10 g11 (fun c => ?_) (fun c => ?_)
  · have h := ht c
    refine g_iconst C dX11_rainCuts_20 rfl ?_
    refine G.sub [0] rfl ?_
    exact w_X11_rainCuts_J21 C hR  h
  · have h := hf c
    refine g_iconst C dX11_rainCuts_16 rfl ?_
    refine g_goto (tgt := 21) C dX11_rainCuts_17 (by decide) ?_
    refine G.sub [0] rfl ?_
    exact w_X11_rainCuts_J21 C hR  h
