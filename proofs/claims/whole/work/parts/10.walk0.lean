theorem dJ6_bitCount_0f7a4_0 : decode cJ6_bitCount_0f7a4 0 = .ok (.iload_n 0, 1) := by decide +kernel
theorem dJ6_bitCount_0f7a4_1 : decode cJ6_bitCount_0f7a4 1 = .ok (.iload_n 0, 1) := by decide +kernel
theorem dJ6_bitCount_0f7a4_2 : decode cJ6_bitCount_0f7a4 2 = .ok (.iconst 1, 1) := by decide +kernel
theorem dJ6_bitCount_0f7a4_3 : decode cJ6_bitCount_0f7a4 3 = .ok (.iushr, 1) := by decide +kernel
theorem dJ6_bitCount_0f7a4_4 : decode cJ6_bitCount_0f7a4 4 = .ok (.ldc_w 265, 3) := by decide +kernel
theorem dJ6_bitCount_0f7a4_7 : decode cJ6_bitCount_0f7a4 7 = .ok (.iand, 1) := by decide +kernel
theorem dJ6_bitCount_0f7a4_8 : decode cJ6_bitCount_0f7a4 8 = .ok (.isub, 1) := by decide +kernel
theorem dJ6_bitCount_0f7a4_9 : decode cJ6_bitCount_0f7a4 9 = .ok (.istore_n 0, 1) := by decide +kernel
theorem dJ6_bitCount_0f7a4_10 : decode cJ6_bitCount_0f7a4 10 = .ok (.iload_n 0, 1) := by decide +kernel
theorem dJ6_bitCount_0f7a4_11 : decode cJ6_bitCount_0f7a4 11 = .ok (.ldc_w 266, 3) := by decide +kernel
theorem dJ6_bitCount_0f7a4_14 : decode cJ6_bitCount_0f7a4 14 = .ok (.iand, 1) := by decide +kernel
theorem dJ6_bitCount_0f7a4_15 : decode cJ6_bitCount_0f7a4 15 = .ok (.iload_n 0, 1) := by decide +kernel
theorem dJ6_bitCount_0f7a4_16 : decode cJ6_bitCount_0f7a4 16 = .ok (.iconst 2, 1) := by decide +kernel
theorem dJ6_bitCount_0f7a4_17 : decode cJ6_bitCount_0f7a4 17 = .ok (.iushr, 1) := by decide +kernel
theorem dJ6_bitCount_0f7a4_18 : decode cJ6_bitCount_0f7a4 18 = .ok (.ldc_w 266, 3) := by decide +kernel
theorem dJ6_bitCount_0f7a4_21 : decode cJ6_bitCount_0f7a4 21 = .ok (.iand, 1) := by decide +kernel
theorem dJ6_bitCount_0f7a4_22 : decode cJ6_bitCount_0f7a4 22 = .ok (.iadd, 1) := by decide +kernel
theorem dJ6_bitCount_0f7a4_23 : decode cJ6_bitCount_0f7a4 23 = .ok (.istore_n 0, 1) := by decide +kernel
theorem dJ6_bitCount_0f7a4_24 : decode cJ6_bitCount_0f7a4 24 = .ok (.iload_n 0, 1) := by decide +kernel
theorem dJ6_bitCount_0f7a4_25 : decode cJ6_bitCount_0f7a4 25 = .ok (.iload_n 0, 1) := by decide +kernel
theorem dJ6_bitCount_0f7a4_26 : decode cJ6_bitCount_0f7a4 26 = .ok (.iconst 4, 1) := by decide +kernel
theorem dJ6_bitCount_0f7a4_27 : decode cJ6_bitCount_0f7a4 27 = .ok (.iushr, 1) := by decide +kernel
theorem dJ6_bitCount_0f7a4_28 : decode cJ6_bitCount_0f7a4 28 = .ok (.iadd, 1) := by decide +kernel
theorem dJ6_bitCount_0f7a4_29 : decode cJ6_bitCount_0f7a4 29 = .ok (.ldc_w 267, 3) := by decide +kernel
theorem dJ6_bitCount_0f7a4_32 : decode cJ6_bitCount_0f7a4 32 = .ok (.iand, 1) := by decide +kernel
theorem dJ6_bitCount_0f7a4_33 : decode cJ6_bitCount_0f7a4 33 = .ok (.istore_n 0, 1) := by decide +kernel
theorem dJ6_bitCount_0f7a4_34 : decode cJ6_bitCount_0f7a4 34 = .ok (.iload_n 0, 1) := by decide +kernel
theorem dJ6_bitCount_0f7a4_35 : decode cJ6_bitCount_0f7a4 35 = .ok (.iload_n 0, 1) := by decide +kernel
theorem dJ6_bitCount_0f7a4_36 : decode cJ6_bitCount_0f7a4 36 = .ok (.bipush 8, 2) := by decide +kernel
theorem dJ6_bitCount_0f7a4_38 : decode cJ6_bitCount_0f7a4 38 = .ok (.iushr, 1) := by decide +kernel
theorem dJ6_bitCount_0f7a4_39 : decode cJ6_bitCount_0f7a4 39 = .ok (.iadd, 1) := by decide +kernel
theorem dJ6_bitCount_0f7a4_40 : decode cJ6_bitCount_0f7a4 40 = .ok (.istore_n 0, 1) := by decide +kernel
theorem dJ6_bitCount_0f7a4_41 : decode cJ6_bitCount_0f7a4 41 = .ok (.iload_n 0, 1) := by decide +kernel
theorem dJ6_bitCount_0f7a4_42 : decode cJ6_bitCount_0f7a4 42 = .ok (.iload_n 0, 1) := by decide +kernel
theorem dJ6_bitCount_0f7a4_43 : decode cJ6_bitCount_0f7a4 43 = .ok (.bipush 16, 2) := by decide +kernel
theorem dJ6_bitCount_0f7a4_45 : decode cJ6_bitCount_0f7a4 45 = .ok (.iushr, 1) := by decide +kernel
theorem dJ6_bitCount_0f7a4_46 : decode cJ6_bitCount_0f7a4 46 = .ok (.iadd, 1) := by decide +kernel
theorem dJ6_bitCount_0f7a4_47 : decode cJ6_bitCount_0f7a4 47 = .ok (.istore_n 0, 1) := by decide +kernel
theorem dJ6_bitCount_0f7a4_48 : decode cJ6_bitCount_0f7a4 48 = .ok (.iload_n 0, 1) := by decide +kernel
theorem dJ6_bitCount_0f7a4_49 : decode cJ6_bitCount_0f7a4 49 = .ok (.bipush 63, 2) := by decide +kernel
theorem dJ6_bitCount_0f7a4_51 : decode cJ6_bitCount_0f7a4 51 = .ok (.iand, 1) := by decide +kernel
theorem dJ6_bitCount_0f7a4_52 : decode cJ6_bitCount_0f7a4 52 = .ok (.ireturn, 1) := by decide +kernel
theorem dJ9_floorDiv_f86c9_0 : decode cJ9_floorDiv_f86c9 0 = .ok (.lload_n 0, 1) := by decide +kernel
theorem dJ9_floorDiv_f86c9_1 : decode cJ9_floorDiv_f86c9 1 = .ok (.lload_n 2, 1) := by decide +kernel
theorem dJ9_floorDiv_f86c9_2 : decode cJ9_floorDiv_f86c9 2 = .ok (.ldiv, 1) := by decide +kernel
theorem dJ9_floorDiv_f86c9_3 : decode cJ9_floorDiv_f86c9 3 = .ok (.lstore 4, 2) := by decide +kernel
theorem dJ9_floorDiv_f86c9_5 : decode cJ9_floorDiv_f86c9 5 = .ok (.lload_n 0, 1) := by decide +kernel
theorem dJ9_floorDiv_f86c9_6 : decode cJ9_floorDiv_f86c9 6 = .ok (.lload_n 2, 1) := by decide +kernel
theorem dJ9_floorDiv_f86c9_7 : decode cJ9_floorDiv_f86c9 7 = .ok (.lxor, 1) := by decide +kernel
theorem dJ9_floorDiv_f86c9_8 : decode cJ9_floorDiv_f86c9 8 = .ok (.lconst 0, 1) := by decide +kernel
theorem dJ9_floorDiv_f86c9_9 : decode cJ9_floorDiv_f86c9 9 = .ok (.lcmp, 1) := by decide +kernel
theorem dJ9_floorDiv_f86c9_10 : decode cJ9_floorDiv_f86c9 10 = .ok (.ifCond .ge 17, 3) := by decide +kernel
theorem dJ9_floorDiv_f86c9_13 : decode cJ9_floorDiv_f86c9 13 = .ok (.lload 4, 2) := by decide +kernel
theorem dJ9_floorDiv_f86c9_15 : decode cJ9_floorDiv_f86c9 15 = .ok (.lload_n 2, 1) := by decide +kernel
theorem dJ9_floorDiv_f86c9_16 : decode cJ9_floorDiv_f86c9 16 = .ok (.lmul, 1) := by decide +kernel
theorem dJ9_floorDiv_f86c9_17 : decode cJ9_floorDiv_f86c9 17 = .ok (.lload_n 0, 1) := by decide +kernel
theorem dJ9_floorDiv_f86c9_18 : decode cJ9_floorDiv_f86c9 18 = .ok (.lcmp, 1) := by decide +kernel
theorem dJ9_floorDiv_f86c9_19 : decode cJ9_floorDiv_f86c9 19 = .ok (.ifCond .eq 8, 3) := by decide +kernel
theorem dJ9_floorDiv_f86c9_22 : decode cJ9_floorDiv_f86c9 22 = .ok (.lload 4, 2) := by decide +kernel
theorem dJ9_floorDiv_f86c9_24 : decode cJ9_floorDiv_f86c9 24 = .ok (.lconst 1, 1) := by decide +kernel
theorem dJ9_floorDiv_f86c9_25 : decode cJ9_floorDiv_f86c9 25 = .ok (.lsub, 1) := by decide +kernel
theorem dJ9_floorDiv_f86c9_26 : decode cJ9_floorDiv_f86c9 26 = .ok (.lreturn, 1) := by decide +kernel
theorem dJ9_floorDiv_f86c9_27 : decode cJ9_floorDiv_f86c9 27 = .ok (.lload 4, 2) := by decide +kernel
theorem dJ9_floorDiv_f86c9_29 : decode cJ9_floorDiv_f86c9 29 = .ok (.lreturn, 1) := by decide +kernel
theorem dJ9_floorMod_f86c9_0 : decode cJ9_floorMod_f86c9 0 = .ok (.lload_n 0, 1) := by decide +kernel
theorem dJ9_floorMod_f86c9_1 : decode cJ9_floorMod_f86c9 1 = .ok (.lload_n 2, 1) := by decide +kernel
theorem dJ9_floorMod_f86c9_2 : decode cJ9_floorMod_f86c9 2 = .ok (.lrem, 1) := by decide +kernel
theorem dJ9_floorMod_f86c9_3 : decode cJ9_floorMod_f86c9 3 = .ok (.lstore 4, 2) := by decide +kernel
theorem dJ9_floorMod_f86c9_5 : decode cJ9_floorMod_f86c9 5 = .ok (.lload_n 0, 1) := by decide +kernel
theorem dJ9_floorMod_f86c9_6 : decode cJ9_floorMod_f86c9 6 = .ok (.lload_n 2, 1) := by decide +kernel
theorem dJ9_floorMod_f86c9_7 : decode cJ9_floorMod_f86c9 7 = .ok (.lxor, 1) := by decide +kernel
theorem dJ9_floorMod_f86c9_8 : decode cJ9_floorMod_f86c9 8 = .ok (.lconst 0, 1) := by decide +kernel
theorem dJ9_floorMod_f86c9_9 : decode cJ9_floorMod_f86c9 9 = .ok (.lcmp, 1) := by decide +kernel
theorem dJ9_floorMod_f86c9_10 : decode cJ9_floorMod_f86c9 10 = .ok (.ifCond .ge 15, 3) := by decide +kernel
theorem dJ9_floorMod_f86c9_13 : decode cJ9_floorMod_f86c9 13 = .ok (.lload 4, 2) := by decide +kernel
theorem dJ9_floorMod_f86c9_15 : decode cJ9_floorMod_f86c9 15 = .ok (.lconst 0, 1) := by decide +kernel
theorem dJ9_floorMod_f86c9_16 : decode cJ9_floorMod_f86c9 16 = .ok (.lcmp, 1) := by decide +kernel
theorem dJ9_floorMod_f86c9_17 : decode cJ9_floorMod_f86c9 17 = .ok (.ifCond .eq 8, 3) := by decide +kernel
theorem dJ9_floorMod_f86c9_20 : decode cJ9_floorMod_f86c9 20 = .ok (.lload 4, 2) := by decide +kernel
theorem dJ9_floorMod_f86c9_22 : decode cJ9_floorMod_f86c9 22 = .ok (.lload_n 2, 1) := by decide +kernel
theorem dJ9_floorMod_f86c9_23 : decode cJ9_floorMod_f86c9 23 = .ok (.ladd, 1) := by decide +kernel
theorem dJ9_floorMod_f86c9_24 : decode cJ9_floorMod_f86c9 24 = .ok (.lreturn, 1) := by decide +kernel
theorem dJ9_floorMod_f86c9_25 : decode cJ9_floorMod_f86c9 25 = .ok (.lload 4, 2) := by decide +kernel
theorem dJ9_floorMod_f86c9_27 : decode cJ9_floorMod_f86c9 27 = .ok (.lreturn, 1) := by decide +kernel
theorem dJ9_max_7cf53_0 : decode cJ9_max_7cf53 0 = .ok (.iload_n 0, 1) := by decide +kernel
theorem dJ9_max_7cf53_1 : decode cJ9_max_7cf53 1 = .ok (.iload_n 1, 1) := by decide +kernel
theorem dJ9_max_7cf53_2 : decode cJ9_max_7cf53 2 = .ok (.if_icmp .lt 7, 3) := by decide +kernel
theorem dJ9_max_7cf53_5 : decode cJ9_max_7cf53 5 = .ok (.iload_n 0, 1) := by decide +kernel
theorem dJ9_max_7cf53_6 : decode cJ9_max_7cf53 6 = .ok (.goto 4, 3) := by decide +kernel
theorem dJ9_max_7cf53_9 : decode cJ9_max_7cf53 9 = .ok (.iload_n 1, 1) := by decide +kernel
theorem dJ9_max_7cf53_10 : decode cJ9_max_7cf53 10 = .ok (.ireturn, 1) := by decide +kernel
theorem dJ9_max_f86c9_0 : decode cJ9_max_f86c9 0 = .ok (.lload_n 0, 1) := by decide +kernel
theorem dJ9_max_f86c9_1 : decode cJ9_max_f86c9 1 = .ok (.lload_n 2, 1) := by decide +kernel
theorem dJ9_max_f86c9_2 : decode cJ9_max_f86c9 2 = .ok (.lcmp, 1) := by decide +kernel
theorem dJ9_max_f86c9_3 : decode cJ9_max_f86c9 3 = .ok (.ifCond .lt 7, 3) := by decide +kernel
theorem dJ9_max_f86c9_6 : decode cJ9_max_f86c9 6 = .ok (.lload_n 0, 1) := by decide +kernel
theorem dJ9_max_f86c9_7 : decode cJ9_max_f86c9 7 = .ok (.goto 4, 3) := by decide +kernel
theorem dJ9_max_f86c9_10 : decode cJ9_max_f86c9 10 = .ok (.lload_n 2, 1) := by decide +kernel
theorem dJ9_max_f86c9_11 : decode cJ9_max_f86c9 11 = .ok (.lreturn, 1) := by decide +kernel
theorem dJ9_min_7cf53_0 : decode cJ9_min_7cf53 0 = .ok (.iload_n 0, 1) := by decide +kernel
theorem dJ9_min_7cf53_1 : decode cJ9_min_7cf53 1 = .ok (.iload_n 1, 1) := by decide +kernel
theorem dJ9_min_7cf53_2 : decode cJ9_min_7cf53 2 = .ok (.if_icmp .gt 7, 3) := by decide +kernel
theorem dJ9_min_7cf53_5 : decode cJ9_min_7cf53 5 = .ok (.iload_n 0, 1) := by decide +kernel
theorem dJ9_min_7cf53_6 : decode cJ9_min_7cf53 6 = .ok (.goto 4, 3) := by decide +kernel
theorem dJ9_min_7cf53_9 : decode cJ9_min_7cf53 9 = .ok (.iload_n 1, 1) := by decide +kernel
theorem dJ9_min_7cf53_10 : decode cJ9_min_7cf53 10 = .ok (.ireturn, 1) := by decide +kernel
theorem dJ9_min_f86c9_0 : decode cJ9_min_f86c9 0 = .ok (.lload_n 0, 1) := by decide +kernel
theorem dJ9_min_f86c9_1 : decode cJ9_min_f86c9 1 = .ok (.lload_n 2, 1) := by decide +kernel
theorem dJ9_min_f86c9_2 : decode cJ9_min_f86c9 2 = .ok (.lcmp, 1) := by decide +kernel
theorem dJ9_min_f86c9_3 : decode cJ9_min_f86c9 3 = .ok (.ifCond .gt 7, 3) := by decide +kernel
theorem dJ9_min_f86c9_6 : decode cJ9_min_f86c9 6 = .ok (.lload_n 0, 1) := by decide +kernel
theorem dJ9_min_f86c9_7 : decode cJ9_min_f86c9 7 = .ok (.goto 4, 3) := by decide +kernel
theorem dJ9_min_f86c9_10 : decode cJ9_min_f86c9 10 = .ok (.lload_n 2, 1) := by decide +kernel
theorem dJ9_min_f86c9_11 : decode cJ9_min_f86c9 11 = .ok (.lreturn, 1) := by decide +kernel
theorem dJ7_fill_53178_0 : decode cJ7_fill_53178 0 = .ok (.iconst 0, 1) := by decide +kernel
theorem dJ7_fill_53178_1 : decode cJ7_fill_53178 1 = .ok (.istore_n 2, 1) := by decide +kernel
theorem dJ7_fill_53178_2 : decode cJ7_fill_53178 2 = .ok (.aload_n 0, 1) := by decide +kernel
theorem dJ7_fill_53178_3 : decode cJ7_fill_53178 3 = .ok (.arraylength, 1) := by decide +kernel
theorem dJ7_fill_53178_4 : decode cJ7_fill_53178 4 = .ok (.istore_n 3, 1) := by decide +kernel
theorem dJ7_fill_53178_5 : decode cJ7_fill_53178 5 = .ok (.iload_n 2, 1) := by decide +kernel
theorem dJ7_fill_53178_6 : decode cJ7_fill_53178 6 = .ok (.iload_n 3, 1) := by decide +kernel
theorem dJ7_fill_53178_7 : decode cJ7_fill_53178 7 = .ok (.if_icmp .ge 13, 3) := by decide +kernel
theorem dJ7_fill_53178_10 : decode cJ7_fill_53178 10 = .ok (.aload_n 0, 1) := by decide +kernel
theorem dJ7_fill_53178_11 : decode cJ7_fill_53178 11 = .ok (.iload_n 2, 1) := by decide +kernel
theorem dJ7_fill_53178_12 : decode cJ7_fill_53178 12 = .ok (.iload_n 1, 1) := by decide +kernel
theorem dJ7_fill_53178_13 : decode cJ7_fill_53178 13 = .ok (.iastore, 1) := by decide +kernel
theorem dJ7_fill_53178_14 : decode cJ7_fill_53178 14 = .ok (.iinc 2 1, 3) := by decide +kernel
theorem dJ7_fill_53178_17 : decode cJ7_fill_53178 17 = .ok (.goto (-12), 3) := by decide +kernel
theorem dJ7_fill_53178_20 : decode cJ7_fill_53178 20 = .ok (.return_, 1) := by decide +kernel
theorem dX11_isStep_0 : decode cX11_isStep 0 = .ok (.iload_n 0, 1) := by decide +kernel
theorem dX11_isStep_1 : decode cX11_isStep 1 = .ok (.iconst 1, 1) := by decide +kernel
theorem dX11_isStep_2 : decode cX11_isStep 2 = .ok (.if_icmp .lt 13, 3) := by decide +kernel
theorem dX11_isStep_5 : decode cX11_isStep 5 = .ok (.iload_n 0, 1) := by decide +kernel
theorem dX11_isStep_6 : decode cX11_isStep 6 = .ok (.bipush 8, 2) := by decide +kernel
theorem dX11_isStep_8 : decode cX11_isStep 8 = .ok (.if_icmp .gt 7, 3) := by decide +kernel
theorem dX11_isStep_11 : decode cX11_isStep 11 = .ok (.iconst 1, 1) := by decide +kernel
theorem dX11_isStep_12 : decode cX11_isStep 12 = .ok (.goto 4, 3) := by decide +kernel
theorem dX11_isStep_15 : decode cX11_isStep 15 = .ok (.iconst 0, 1) := by decide +kernel
theorem dX11_isStep_16 : decode cX11_isStep 16 = .ok (.ireturn, 1) := by decide +kernel
theorem dX0_takeRows_0 : decode cX0_takeRows 0 = .ok (.aload_n 1, 1) := by decide +kernel
theorem dX0_takeRows_1 : decode cX0_takeRows 1 = .ok (.getfield 23, 3) := by decide +kernel
theorem dX0_takeRows_4 : decode cX0_takeRows 4 = .ok (.astore_n 3, 1) := by decide +kernel
theorem dX0_takeRows_5 : decode cX0_takeRows 5 = .ok (.aload_n 1, 1) := by decide +kernel
theorem dX0_takeRows_6 : decode cX0_takeRows 6 = .ok (.getfield 28, 3) := by decide +kernel
theorem dX0_takeRows_9 : decode cX0_takeRows 9 = .ok (.ifCond .eq 21, 3) := by decide +kernel
theorem dX0_takeRows_12 : decode cX0_takeRows 12 = .ok (.aload_n 1, 1) := by decide +kernel
theorem dX0_takeRows_13 : decode cX0_takeRows 13 = .ok (.getfield 28, 3) := by decide +kernel
theorem dX0_takeRows_16 : decode cX0_takeRows 16 = .ok (.iconst 3, 1) := by decide +kernel
theorem dX0_takeRows_17 : decode cX0_takeRows 17 = .ok (.irem, 1) := by decide +kernel
theorem dX0_takeRows_18 : decode cX0_takeRows 18 = .ok (.ifCond .ne 12, 3) := by decide +kernel
theorem dX0_takeRows_21 : decode cX0_takeRows 21 = .ok (.aload_n 1, 1) := by decide +kernel
theorem dX0_takeRows_22 : decode cX0_takeRows 22 = .ok (.getfield 28, 3) := by decide +kernel
theorem dX0_takeRows_25 : decode cX0_takeRows 25 = .ok (.bipush 48, 2) := by decide +kernel
theorem dX0_takeRows_27 : decode cX0_takeRows 27 = .ok (.if_icmp .le 5, 3) := by decide +kernel
theorem dX0_takeRows_30 : decode cX0_takeRows 30 = .ok (.iconst 0, 1) := by decide +kernel
theorem dX0_takeRows_31 : decode cX0_takeRows 31 = .ok (.ireturn, 1) := by decide +kernel
theorem dX0_takeRows_32 : decode cX0_takeRows 32 = .ok (.iconst 0, 1) := by decide +kernel
theorem dX0_takeRows_33 : decode cX0_takeRows 33 = .ok (.istore 4, 2) := by decide +kernel
theorem dX0_takeRows_35 : decode cX0_takeRows 35 = .ok (.iload 4, 2) := by decide +kernel
theorem dX0_takeRows_37 : decode cX0_takeRows 37 = .ok (.aload_n 1, 1) := by decide +kernel
theorem dX0_takeRows_38 : decode cX0_takeRows 38 = .ok (.getfield 28, 3) := by decide +kernel
theorem dX0_takeRows_41 : decode cX0_takeRows 41 = .ok (.if_icmp .ge 34, 3) := by decide +kernel
theorem dX0_takeRows_44 : decode cX0_takeRows 44 = .ok (.aload_n 3, 1) := by decide +kernel
theorem dX0_takeRows_45 : decode cX0_takeRows 45 = .ok (.iload 4, 2) := by decide +kernel
theorem dX0_takeRows_47 : decode cX0_takeRows 47 = .ok (.iaload, 1) := by decide +kernel
theorem dX0_takeRows_48 : decode cX0_takeRows 48 = .ok (.invokestatic 32, 3) := by decide +kernel
theorem dX0_takeRows_51 : decode cX0_takeRows 51 = .ok (.ifCond .eq 16, 3) := by decide +kernel
theorem dX0_takeRows_54 : decode cX0_takeRows 54 = .ok (.aload_n 3, 1) := by decide +kernel
theorem dX0_takeRows_55 : decode cX0_takeRows 55 = .ok (.iload 4, 2) := by decide +kernel
theorem dX0_takeRows_57 : decode cX0_takeRows 57 = .ok (.iconst 1, 1) := by decide +kernel
theorem dX0_takeRows_58 : decode cX0_takeRows 58 = .ok (.iadd, 1) := by decide +kernel
theorem dX0_takeRows_59 : decode cX0_takeRows 59 = .ok (.iaload, 1) := by decide +kernel
theorem dX0_takeRows_60 : decode cX0_takeRows 60 = .ok (.aload_n 2, 1) := by decide +kernel
theorem dX0_takeRows_61 : decode cX0_takeRows 61 = .ok (.getfield 36, 3) := by decide +kernel
theorem dX0_takeRows_64 : decode cX0_takeRows 64 = .ok (.if_icmp .lt 5, 3) := by decide +kernel
theorem dX0_takeRows_67 : decode cX0_takeRows 67 = .ok (.iconst 0, 1) := by decide +kernel
theorem dX0_takeRows_68 : decode cX0_takeRows 68 = .ok (.ireturn, 1) := by decide +kernel
theorem dX0_takeRows_69 : decode cX0_takeRows 69 = .ok (.iinc 4 3, 3) := by decide +kernel
theorem dX0_takeRows_72 : decode cX0_takeRows 72 = .ok (.goto (-37), 3) := by decide +kernel
theorem dX0_takeRows_75 : decode cX0_takeRows 75 = .ok (.aload_n 3, 1) := by decide +kernel
theorem dX0_takeRows_76 : decode cX0_takeRows 76 = .ok (.iconst 0, 1) := by decide +kernel
theorem dX0_takeRows_77 : decode cX0_takeRows 77 = .ok (.aload_n 0, 1) := by decide +kernel
theorem dX0_takeRows_78 : decode cX0_takeRows 78 = .ok (.getfield 11, 3) := by decide +kernel
theorem dX0_takeRows_81 : decode cX0_takeRows 81 = .ok (.iconst 0, 1) := by decide +kernel
theorem dX0_takeRows_82 : decode cX0_takeRows 82 = .ok (.aload_n 1, 1) := by decide +kernel
theorem dX0_takeRows_83 : decode cX0_takeRows 83 = .ok (.getfield 28, 3) := by decide +kernel
theorem dX0_takeRows_86 : decode cX0_takeRows 86 = .ok (.invokestatic 41, 3) := by decide +kernel
theorem dX0_takeRows_89 : decode cX0_takeRows 89 = .ok (.aload_n 0, 1) := by decide +kernel
theorem dX0_takeRows_90 : decode cX0_takeRows 90 = .ok (.aload_n 1, 1) := by decide +kernel
theorem dX0_takeRows_91 : decode cX0_takeRows 91 = .ok (.getfield 28, 3) := by decide +kernel
theorem dX0_takeRows_94 : decode cX0_takeRows 94 = .ok (.iconst 3, 1) := by decide +kernel
theorem dX0_takeRows_95 : decode cX0_takeRows 95 = .ok (.idiv, 1) := by decide +kernel
theorem dX0_takeRows_96 : decode cX0_takeRows 96 = .ok (.putfield 47, 3) := by decide +kernel
theorem dX0_takeRows_99 : decode cX0_takeRows 99 = .ok (.iconst 1, 1) := by decide +kernel
theorem dX0_takeRows_100 : decode cX0_takeRows 100 = .ok (.ireturn, 1) := by decide +kernel
theorem dX0_clear_0 : decode cX0_clear 0 = .ok (.aload_n 0, 1) := by decide +kernel
theorem dX0_clear_1 : decode cX0_clear 1 = .ok (.iconst 0, 1) := by decide +kernel
theorem dX0_clear_2 : decode cX0_clear 2 = .ok (.putfield 50, 3) := by decide +kernel
theorem dX0_clear_5 : decode cX0_clear 5 = .ok (.aload_n 0, 1) := by decide +kernel
theorem dX0_clear_6 : decode cX0_clear 6 = .ok (.iconst (-1), 1) := by decide +kernel
theorem dX0_clear_7 : decode cX0_clear 7 = .ok (.putfield 53, 3) := by decide +kernel
theorem dX0_clear_10 : decode cX0_clear 10 = .ok (.aload_n 0, 1) := by decide +kernel
theorem dX0_clear_11 : decode cX0_clear 11 = .ok (.iconst (-1), 1) := by decide +kernel
theorem dX0_clear_12 : decode cX0_clear 12 = .ok (.putfield 56, 3) := by decide +kernel
theorem dX0_clear_15 : decode cX0_clear 15 = .ok (.aload_n 0, 1) := by decide +kernel
theorem dX0_clear_16 : decode cX0_clear 16 = .ok (.iconst (-1), 1) := by decide +kernel
theorem dX0_clear_17 : decode cX0_clear 17 = .ok (.putfield 59, 3) := by decide +kernel
theorem dX0_clear_20 : decode cX0_clear 20 = .ok (.return_, 1) := by decide +kernel
theorem dX10_peopleIn_0 : decode cX10_peopleIn 0 = .ok (.aload_n 0, 1) := by decide +kernel
theorem dX10_peopleIn_1 : decode cX10_peopleIn 1 = .ok (.getfield 15, 3) := by decide +kernel
theorem dX10_peopleIn_4 : decode cX10_peopleIn 4 = .ok (.bipush 7, 2) := by decide +kernel
theorem dX10_peopleIn_6 : decode cX10_peopleIn 6 = .ok (.iload_n 2, 1) := by decide +kernel
theorem dX10_peopleIn_7 : decode cX10_peopleIn 7 = .ok (.imul, 1) := by decide +kernel
theorem dX10_peopleIn_8 : decode cX10_peopleIn 8 = .ok (.iload_n 1, 1) := by decide +kernel
theorem dX10_peopleIn_9 : decode cX10_peopleIn 9 = .ok (.iadd, 1) := by decide +kernel
theorem dX10_peopleIn_10 : decode cX10_peopleIn 10 = .ok (.iaload, 1) := by decide +kernel
theorem dX10_peopleIn_11 : decode cX10_peopleIn 11 = .ok (.ireturn, 1) := by decide +kernel
theorem dX10_countIn_0 : decode cX10_countIn 0 = .ok (.aload_n 0, 1) := by decide +kernel
theorem dX10_countIn_1 : decode cX10_countIn 1 = .ok (.iload_n 1, 1) := by decide +kernel
theorem dX10_countIn_2 : decode cX10_countIn 2 = .ok (.iload_n 2, 1) := by decide +kernel
theorem dX10_countIn_3 : decode cX10_countIn 3 = .ok (.invokevirtual 132, 3) := by decide +kernel
theorem dX10_countIn_6 : decode cX10_countIn 6 = .ok (.invokestatic 135, 3) := by decide +kernel
theorem dX10_countIn_9 : decode cX10_countIn 9 = .ok (.ireturn, 1) := by decide +kernel
theorem dX0_isAsSeen_0 : decode cX0_isAsSeen 0 = .ok (.iconst 0, 1) := by decide +kernel
theorem dX0_isAsSeen_1 : decode cX0_isAsSeen 1 = .ok (.istore_n 2, 1) := by decide +kernel
theorem dX0_isAsSeen_2 : decode cX0_isAsSeen 2 = .ok (.iload_n 2, 1) := by decide +kernel
theorem dX0_isAsSeen_3 : decode cX0_isAsSeen 3 = .ok (.iconst 3, 1) := by decide +kernel
theorem dX0_isAsSeen_4 : decode cX0_isAsSeen 4 = .ok (.aload_n 0, 1) := by decide +kernel
theorem dX0_isAsSeen_5 : decode cX0_isAsSeen 5 = .ok (.getfield 47, 3) := by decide +kernel
theorem dX0_isAsSeen_8 : decode cX0_isAsSeen 8 = .ok (.imul, 1) := by decide +kernel
theorem dX0_isAsSeen_9 : decode cX0_isAsSeen 9 = .ok (.if_icmp .ge 40, 3) := by decide +kernel
theorem dX0_isAsSeen_12 : decode cX0_isAsSeen 12 = .ok (.aload_n 1, 1) := by decide +kernel
theorem dX0_isAsSeen_13 : decode cX0_isAsSeen 13 = .ok (.aload_n 0, 1) := by decide +kernel
theorem dX0_isAsSeen_14 : decode cX0_isAsSeen 14 = .ok (.getfield 11, 3) := by decide +kernel
theorem dX0_isAsSeen_17 : decode cX0_isAsSeen 17 = .ok (.iload_n 2, 1) := by decide +kernel
theorem dX0_isAsSeen_18 : decode cX0_isAsSeen 18 = .ok (.iconst 1, 1) := by decide +kernel
theorem dX0_isAsSeen_19 : decode cX0_isAsSeen 19 = .ok (.iadd, 1) := by decide +kernel
theorem dX0_isAsSeen_20 : decode cX0_isAsSeen 20 = .ok (.iaload, 1) := by decide +kernel
theorem dX0_isAsSeen_21 : decode cX0_isAsSeen 21 = .ok (.aload_n 0, 1) := by decide +kernel
theorem dX0_isAsSeen_22 : decode cX0_isAsSeen 22 = .ok (.getfield 11, 3) := by decide +kernel
theorem dX0_isAsSeen_25 : decode cX0_isAsSeen 25 = .ok (.iload_n 2, 1) := by decide +kernel
theorem dX0_isAsSeen_26 : decode cX0_isAsSeen 26 = .ok (.iaload, 1) := by decide +kernel
theorem dX0_isAsSeen_27 : decode cX0_isAsSeen 27 = .ok (.invokevirtual 66, 3) := by decide +kernel
theorem dX0_isAsSeen_30 : decode cX0_isAsSeen 30 = .ok (.aload_n 0, 1) := by decide +kernel
theorem dX0_isAsSeen_31 : decode cX0_isAsSeen 31 = .ok (.getfield 11, 3) := by decide +kernel
theorem dX0_isAsSeen_34 : decode cX0_isAsSeen 34 = .ok (.iload_n 2, 1) := by decide +kernel
theorem dX0_isAsSeen_35 : decode cX0_isAsSeen 35 = .ok (.iconst 2, 1) := by decide +kernel
theorem dX0_isAsSeen_36 : decode cX0_isAsSeen 36 = .ok (.iadd, 1) := by decide +kernel
theorem dX0_isAsSeen_37 : decode cX0_isAsSeen 37 = .ok (.iaload, 1) := by decide +kernel
theorem dX0_isAsSeen_38 : decode cX0_isAsSeen 38 = .ok (.if_icmp .eq 5, 3) := by decide +kernel
theorem dX0_isAsSeen_41 : decode cX0_isAsSeen 41 = .ok (.iconst 0, 1) := by decide +kernel
theorem dX0_isAsSeen_42 : decode cX0_isAsSeen 42 = .ok (.ireturn, 1) := by decide +kernel
theorem dX0_isAsSeen_43 : decode cX0_isAsSeen 43 = .ok (.iinc 2 3, 3) := by decide +kernel
theorem dX0_isAsSeen_46 : decode cX0_isAsSeen 46 = .ok (.goto (-44), 3) := by decide +kernel
theorem dX0_isAsSeen_49 : decode cX0_isAsSeen 49 = .ok (.iconst 1, 1) := by decide +kernel
theorem dX0_isAsSeen_50 : decode cX0_isAsSeen 50 = .ok (.ireturn, 1) := by decide +kernel
theorem dX0_weigh_0 : decode cX0_weigh 0 = .ok (.aload_n 0, 1) := by decide +kernel
theorem dX0_weigh_1 : decode cX0_weigh 1 = .ok (.aload_n 2, 1) := by decide +kernel
theorem dX0_weigh_2 : decode cX0_weigh 2 = .ok (.invokevirtual 62, 3) := by decide +kernel
theorem dX0_weigh_5 : decode cX0_weigh 5 = .ok (.ifCond .ne 4, 3) := by decide +kernel
theorem dX0_weigh_8 : decode cX0_weigh 8 = .ok (.return_, 1) := by decide +kernel
theorem dX0_weigh_9 : decode cX0_weigh 9 = .ok (.aload_n 0, 1) := by decide +kernel
theorem dX0_weigh_10 : decode cX0_weigh 10 = .ok (.dup, 1) := by decide +kernel
theorem dX0_weigh_11 : decode cX0_weigh 11 = .ok (.getfield 50, 3) := by decide +kernel
theorem dX0_weigh_14 : decode cX0_weigh 14 = .ok (.iconst 1, 1) := by decide +kernel
theorem dX0_weigh_15 : decode cX0_weigh 15 = .ok (.iload_n 1, 1) := by decide +kernel
theorem dX0_weigh_16 : decode cX0_weigh 16 = .ok (.ishl, 1) := by decide +kernel
theorem dX0_weigh_17 : decode cX0_weigh 17 = .ok (.ior, 1) := by decide +kernel
theorem dX0_weigh_18 : decode cX0_weigh 18 = .ok (.putfield 50, 3) := by decide +kernel
theorem dX0_weigh_21 : decode cX0_weigh 21 = .ok (.iconst 1, 1) := by decide +kernel
theorem dX0_weigh_22 : decode cX0_weigh 22 = .ok (.istore_n 3, 1) := by decide +kernel
theorem dX0_weigh_23 : decode cX0_weigh 23 = .ok (.iload_n 3, 1) := by decide +kernel
theorem dX0_weigh_24 : decode cX0_weigh 24 = .ok (.bipush 8, 2) := by decide +kernel
theorem dX0_weigh_26 : decode cX0_weigh 26 = .ok (.if_icmp .gt 48, 3) := by decide +kernel
theorem dX0_weigh_29 : decode cX0_weigh 29 = .ok (.iconst 0, 1) := by decide +kernel
theorem dX0_weigh_30 : decode cX0_weigh 30 = .ok (.istore 4, 2) := by decide +kernel
theorem dX0_weigh_32 : decode cX0_weigh 32 = .ok (.iload 4, 2) := by decide +kernel
theorem dX0_weigh_34 : decode cX0_weigh 34 = .ok (.bipush 7, 2) := by decide +kernel
theorem dX0_weigh_36 : decode cX0_weigh 36 = .ok (.if_icmp .ge 32, 3) := by decide +kernel
theorem dX0_weigh_39 : decode cX0_weigh 39 = .ok (.aload_n 0, 1) := by decide +kernel
theorem dX0_weigh_40 : decode cX0_weigh 40 = .ok (.getfield 17, 3) := by decide +kernel
theorem dX0_weigh_43 : decode cX0_weigh 43 = .ok (.iload_n 1, 1) := by decide +kernel
theorem dX0_weigh_44 : decode cX0_weigh 44 = .ok (.aaload, 1) := by decide +kernel
theorem dX0_weigh_45 : decode cX0_weigh 45 = .ok (.bipush 7, 2) := by decide +kernel
theorem dX0_weigh_47 : decode cX0_weigh 47 = .ok (.iload_n 3, 1) := by decide +kernel
theorem dX0_weigh_48 : decode cX0_weigh 48 = .ok (.iconst 1, 1) := by decide +kernel
theorem dX0_weigh_49 : decode cX0_weigh 49 = .ok (.isub, 1) := by decide +kernel
theorem dX0_weigh_50 : decode cX0_weigh 50 = .ok (.imul, 1) := by decide +kernel
theorem dX0_weigh_51 : decode cX0_weigh 51 = .ok (.iload 4, 2) := by decide +kernel
theorem dX0_weigh_53 : decode cX0_weigh 53 = .ok (.iadd, 1) := by decide +kernel
theorem dX0_weigh_54 : decode cX0_weigh 54 = .ok (.aload_n 2, 1) := by decide +kernel
theorem dX0_weigh_55 : decode cX0_weigh 55 = .ok (.iload 4, 2) := by decide +kernel
theorem dX0_weigh_57 : decode cX0_weigh 57 = .ok (.iload_n 3, 1) := by decide +kernel
theorem dX0_weigh_58 : decode cX0_weigh 58 = .ok (.invokevirtual 66, 3) := by decide +kernel
theorem dX0_weigh_61 : decode cX0_weigh 61 = .ok (.iastore, 1) := by decide +kernel
theorem dX0_weigh_62 : decode cX0_weigh 62 = .ok (.iinc 4 1, 3) := by decide +kernel
theorem dX0_weigh_65 : decode cX0_weigh 65 = .ok (.goto (-33), 3) := by decide +kernel
theorem dX0_weigh_68 : decode cX0_weigh 68 = .ok (.iinc 3 1, 3) := by decide +kernel
theorem dX0_weigh_71 : decode cX0_weigh 71 = .ok (.goto (-48), 3) := by decide +kernel
theorem dX0_weigh_74 : decode cX0_weigh 74 = .ok (.return_, 1) := by decide +kernel
theorem dX0_mostAlike_0 : decode cX0_mostAlike 0 = .ok (.aload_n 0, 1) := by decide +kernel
theorem dX0_mostAlike_1 : decode cX0_mostAlike 1 = .ok (.getfield 20, 3) := by decide +kernel
theorem dX0_mostAlike_4 : decode cX0_mostAlike 4 = .ok (.iconst 0, 1) := by decide +kernel
theorem dX0_mostAlike_5 : decode cX0_mostAlike 5 = .ok (.invokestatic 76, 3) := by decide +kernel
theorem dX0_mostAlike_8 : decode cX0_mostAlike 8 = .ok (.iconst 0, 1) := by decide +kernel
theorem dX0_mostAlike_9 : decode cX0_mostAlike 9 = .ok (.istore_n 2, 1) := by decide +kernel
theorem dX0_mostAlike_10 : decode cX0_mostAlike 10 = .ok (.iconst 0, 1) := by decide +kernel
theorem dX0_mostAlike_11 : decode cX0_mostAlike 11 = .ok (.istore_n 3, 1) := by decide +kernel
theorem dX0_mostAlike_12 : decode cX0_mostAlike 12 = .ok (.iload_n 3, 1) := by decide +kernel
theorem dX0_mostAlike_13 : decode cX0_mostAlike 13 = .ok (.bipush 7, 2) := by decide +kernel
theorem dX0_mostAlike_15 : decode cX0_mostAlike 15 = .ok (.if_icmp .ge 54, 3) := by decide +kernel
theorem dX0_mostAlike_18 : decode cX0_mostAlike 18 = .ok (.aload_n 0, 1) := by decide +kernel
theorem dX0_mostAlike_19 : decode cX0_mostAlike 19 = .ok (.getfield 50, 3) := by decide +kernel
theorem dX0_mostAlike_22 : decode cX0_mostAlike 22 = .ok (.iload_n 3, 1) := by decide +kernel
theorem dX0_mostAlike_23 : decode cX0_mostAlike 23 = .ok (.ishr, 1) := by decide +kernel
theorem dX0_mostAlike_24 : decode cX0_mostAlike 24 = .ok (.iconst 1, 1) := by decide +kernel
theorem dX0_mostAlike_25 : decode cX0_mostAlike 25 = .ok (.iand, 1) := by decide +kernel
theorem dX0_mostAlike_26 : decode cX0_mostAlike 26 = .ok (.iconst 1, 1) := by decide +kernel
theorem dX0_mostAlike_27 : decode cX0_mostAlike 27 = .ok (.if_icmp .ne 36, 3) := by decide +kernel
theorem dX0_mostAlike_30 : decode cX0_mostAlike 30 = .ok (.aload_n 0, 1) := by decide +kernel
theorem dX0_mostAlike_31 : decode cX0_mostAlike 31 = .ok (.getfield 17, 3) := by decide +kernel
theorem dX0_mostAlike_34 : decode cX0_mostAlike 34 = .ok (.iload_n 3, 1) := by decide +kernel
theorem dX0_mostAlike_35 : decode cX0_mostAlike 35 = .ok (.aaload, 1) := by decide +kernel
theorem dX0_mostAlike_36 : decode cX0_mostAlike 36 = .ok (.iload_n 1, 1) := by decide +kernel
theorem dX0_mostAlike_37 : decode cX0_mostAlike 37 = .ok (.iaload, 1) := by decide +kernel
theorem dX0_mostAlike_38 : decode cX0_mostAlike 38 = .ok (.istore 4, 2) := by decide +kernel
theorem dX0_mostAlike_40 : decode cX0_mostAlike 40 = .ok (.aload_n 0, 1) := by decide +kernel
theorem dX0_mostAlike_41 : decode cX0_mostAlike 41 = .ok (.getfield 20, 3) := by decide +kernel
theorem dX0_mostAlike_44 : decode cX0_mostAlike 44 = .ok (.iload 4, 2) := by decide +kernel
theorem dX0_mostAlike_46 : decode cX0_mostAlike 46 = .ok (.dup2, 1) := by decide +kernel
theorem dX0_mostAlike_47 : decode cX0_mostAlike 47 = .ok (.iaload, 1) := by decide +kernel
theorem dX0_mostAlike_48 : decode cX0_mostAlike 48 = .ok (.iconst 1, 1) := by decide +kernel
theorem dX0_mostAlike_49 : decode cX0_mostAlike 49 = .ok (.iadd, 1) := by decide +kernel
theorem dX0_mostAlike_50 : decode cX0_mostAlike 50 = .ok (.iastore, 1) := by decide +kernel
theorem dX0_mostAlike_51 : decode cX0_mostAlike 51 = .ok (.iload_n 2, 1) := by decide +kernel
theorem dX0_mostAlike_52 : decode cX0_mostAlike 52 = .ok (.aload_n 0, 1) := by decide +kernel
theorem dX0_mostAlike_53 : decode cX0_mostAlike 53 = .ok (.getfield 20, 3) := by decide +kernel
theorem dX0_mostAlike_56 : decode cX0_mostAlike 56 = .ok (.iload 4, 2) := by decide +kernel
theorem dX0_mostAlike_58 : decode cX0_mostAlike 58 = .ok (.iaload, 1) := by decide +kernel
theorem dX0_mostAlike_59 : decode cX0_mostAlike 59 = .ok (.invokestatic 82, 3) := by decide +kernel
theorem dX0_mostAlike_62 : decode cX0_mostAlike 62 = .ok (.istore_n 2, 1) := by decide +kernel
theorem dX0_mostAlike_63 : decode cX0_mostAlike 63 = .ok (.iinc 3 1, 3) := by decide +kernel
theorem dX0_mostAlike_66 : decode cX0_mostAlike 66 = .ok (.goto (-54), 3) := by decide +kernel
theorem dX0_mostAlike_69 : decode cX0_mostAlike 69 = .ok (.iload_n 2, 1) := by decide +kernel
theorem dX0_mostAlike_70 : decode cX0_mostAlike 70 = .ok (.ireturn, 1) := by decide +kernel
theorem dX0_findTelling_0 : decode cX0_findTelling 0 = .ok (.aload_n 0, 1) := by decide +kernel
theorem dX0_findTelling_1 : decode cX0_findTelling 1 = .ok (.getfield 50, 3) := by decide +kernel
theorem dX0_findTelling_4 : decode cX0_findTelling 4 = .ok (.ifCond .ne 4, 3) := by decide +kernel
theorem dX0_findTelling_7 : decode cX0_findTelling 7 = .ok (.return_, 1) := by decide +kernel
theorem dX0_findTelling_8 : decode cX0_findTelling 8 = .ok (.iconst 1, 1) := by decide +kernel
theorem dX0_findTelling_9 : decode cX0_findTelling 9 = .ok (.istore_n 2, 1) := by decide +kernel
theorem dX0_findTelling_10 : decode cX0_findTelling 10 = .ok (.iload_n 2, 1) := by decide +kernel
theorem dX0_findTelling_11 : decode cX0_findTelling 11 = .ok (.bipush 8, 2) := by decide +kernel
theorem dX0_findTelling_13 : decode cX0_findTelling 13 = .ok (.if_icmp .gt 69, 3) := by decide +kernel
theorem dX0_findTelling_16 : decode cX0_findTelling 16 = .ok (.iconst 0, 1) := by decide +kernel
theorem dX0_findTelling_17 : decode cX0_findTelling 17 = .ok (.istore_n 3, 1) := by decide +kernel
theorem dX0_findTelling_18 : decode cX0_findTelling 18 = .ok (.iload_n 3, 1) := by decide +kernel
theorem dX0_findTelling_19 : decode cX0_findTelling 19 = .ok (.iload_n 1, 1) := by decide +kernel
theorem dX0_findTelling_20 : decode cX0_findTelling 20 = .ok (.if_icmp .ge 56, 3) := by decide +kernel
theorem dX0_findTelling_23 : decode cX0_findTelling 23 = .ok (.aload_n 0, 1) := by decide +kernel
theorem dX0_findTelling_24 : decode cX0_findTelling 24 = .ok (.bipush 7, 2) := by decide +kernel
theorem dX0_findTelling_26 : decode cX0_findTelling 26 = .ok (.iload_n 2, 1) := by decide +kernel
theorem dX0_findTelling_27 : decode cX0_findTelling 27 = .ok (.iconst 1, 1) := by decide +kernel
theorem dX0_findTelling_28 : decode cX0_findTelling 28 = .ok (.isub, 1) := by decide +kernel
theorem dX0_findTelling_29 : decode cX0_findTelling 29 = .ok (.imul, 1) := by decide +kernel
theorem dX0_findTelling_30 : decode cX0_findTelling 30 = .ok (.iload_n 3, 1) := by decide +kernel
theorem dX0_findTelling_31 : decode cX0_findTelling 31 = .ok (.iadd, 1) := by decide +kernel
theorem dX0_findTelling_32 : decode cX0_findTelling 32 = .ok (.invokevirtual 72, 3) := by decide +kernel
theorem dX0_findTelling_35 : decode cX0_findTelling 35 = .ok (.istore 4, 2) := by decide +kernel
theorem dX0_findTelling_37 : decode cX0_findTelling 37 = .ok (.aload_n 0, 1) := by decide +kernel
theorem dX0_findTelling_38 : decode cX0_findTelling 38 = .ok (.getfield 59, 3) := by decide +kernel
theorem dX0_findTelling_41 : decode cX0_findTelling 41 = .ok (.iconst (-1), 1) := by decide +kernel
theorem dX0_findTelling_42 : decode cX0_findTelling 42 = .ok (.if_icmp .eq 12, 3) := by decide +kernel
theorem dX0_findTelling_45 : decode cX0_findTelling 45 = .ok (.iload 4, 2) := by decide +kernel
theorem dX0_findTelling_47 : decode cX0_findTelling 47 = .ok (.aload_n 0, 1) := by decide +kernel
theorem dX0_findTelling_48 : decode cX0_findTelling 48 = .ok (.getfield 59, 3) := by decide +kernel
theorem dX0_findTelling_51 : decode cX0_findTelling 51 = .ok (.if_icmp .ge 19, 3) := by decide +kernel
theorem dX0_findTelling_54 : decode cX0_findTelling 54 = .ok (.aload_n 0, 1) := by decide +kernel
theorem dX0_findTelling_55 : decode cX0_findTelling 55 = .ok (.iload 4, 2) := by decide +kernel
theorem dX0_findTelling_57 : decode cX0_findTelling 57 = .ok (.putfield 59, 3) := by decide +kernel
theorem dX0_findTelling_60 : decode cX0_findTelling 60 = .ok (.aload_n 0, 1) := by decide +kernel
theorem dX0_findTelling_61 : decode cX0_findTelling 61 = .ok (.iload_n 2, 1) := by decide +kernel
theorem dX0_findTelling_62 : decode cX0_findTelling 62 = .ok (.putfield 53, 3) := by decide +kernel
theorem dX0_findTelling_65 : decode cX0_findTelling 65 = .ok (.aload_n 0, 1) := by decide +kernel
theorem dX0_findTelling_66 : decode cX0_findTelling 66 = .ok (.iload_n 3, 1) := by decide +kernel
theorem dX0_findTelling_67 : decode cX0_findTelling 67 = .ok (.putfield 56, 3) := by decide +kernel
theorem dX0_findTelling_70 : decode cX0_findTelling 70 = .ok (.iinc 3 1, 3) := by decide +kernel
theorem dX0_findTelling_73 : decode cX0_findTelling 73 = .ok (.goto (-55), 3) := by decide +kernel
theorem dX0_findTelling_76 : decode cX0_findTelling 76 = .ok (.iinc 2 1, 3) := by decide +kernel
theorem dX0_findTelling_79 : decode cX0_findTelling 79 = .ok (.goto (-69), 3) := by decide +kernel
theorem dX0_findTelling_82 : decode cX0_findTelling 82 = .ok (.return_, 1) := by decide +kernel
theorem dX1_add_0 : decode cX1_add 0 = .ok (.aload_n 0, 1) := by decide +kernel
theorem dX1_add_1 : decode cX1_add 1 = .ok (.getfield 18, 3) := by decide +kernel
theorem dX1_add_4 : decode cX1_add 4 = .ok (.sipush 1600, 3) := by decide +kernel
theorem dX1_add_7 : decode cX1_add 7 = .ok (.if_icmp .ge 23, 3) := by decide +kernel
theorem dX1_add_10 : decode cX1_add 10 = .ok (.aload_n 0, 1) := by decide +kernel
theorem dX1_add_11 : decode cX1_add 11 = .ok (.getfield 9, 3) := by decide +kernel
theorem dX1_add_14 : decode cX1_add 14 = .ok (.aload_n 0, 1) := by decide +kernel
theorem dX1_add_15 : decode cX1_add 15 = .ok (.getfield 18, 3) := by decide +kernel
theorem dX1_add_18 : decode cX1_add 18 = .ok (.iload_n 1, 1) := by decide +kernel
theorem dX1_add_19 : decode cX1_add 19 = .ok (.iastore, 1) := by decide +kernel
theorem dX1_add_20 : decode cX1_add 20 = .ok (.aload_n 0, 1) := by decide +kernel
theorem dX1_add_21 : decode cX1_add 21 = .ok (.dup, 1) := by decide +kernel
theorem dX1_add_22 : decode cX1_add 22 = .ok (.getfield 18, 3) := by decide +kernel
theorem dX1_add_25 : decode cX1_add 25 = .ok (.iconst 1, 1) := by decide +kernel
theorem dX1_add_26 : decode cX1_add 26 = .ok (.iadd, 1) := by decide +kernel
theorem dX1_add_27 : decode cX1_add 27 = .ok (.putfield 18, 3) := by decide +kernel
theorem dX1_add_30 : decode cX1_add 30 = .ok (.iconst 1, 1) := by decide +kernel
theorem dX1_add_31 : decode cX1_add 31 = .ok (.ireturn, 1) := by decide +kernel
theorem dX1_joined_0 : decode cX1_joined 0 = .ok (.iload_n 0, 1) := by decide +kernel
theorem dX1_joined_1 : decode cX1_joined 1 = .ok (.tableswitch 163 (-19) (-8) #[159, 155, 143, 131, 119, 113, 107, 91, 75, 71, 67, 63], 63) := by decide +kernel
theorem dX1_joined_64 : decode cX1_joined 64 = .ok (.lload_n 1, 1) := by decide +kernel
theorem dX1_joined_65 : decode cX1_joined 65 = .ok (.lload_n 3, 1) := by decide +kernel
theorem dX1_joined_66 : decode cX1_joined 66 = .ok (.ladd, 1) := by decide +kernel
theorem dX1_joined_67 : decode cX1_joined 67 = .ok (.lreturn, 1) := by decide +kernel
theorem dX1_joined_68 : decode cX1_joined 68 = .ok (.lload_n 1, 1) := by decide +kernel
theorem dX1_joined_69 : decode cX1_joined 69 = .ok (.lload_n 3, 1) := by decide +kernel
theorem dX1_joined_70 : decode cX1_joined 70 = .ok (.lsub, 1) := by decide +kernel
theorem dX1_joined_71 : decode cX1_joined 71 = .ok (.lreturn, 1) := by decide +kernel
theorem dX1_joined_72 : decode cX1_joined 72 = .ok (.lload_n 1, 1) := by decide +kernel
theorem dX1_joined_73 : decode cX1_joined 73 = .ok (.lload_n 3, 1) := by decide +kernel
theorem dX1_joined_74 : decode cX1_joined 74 = .ok (.lmul, 1) := by decide +kernel
theorem dX1_joined_75 : decode cX1_joined 75 = .ok (.lreturn, 1) := by decide +kernel
theorem dX1_joined_76 : decode cX1_joined 76 = .ok (.lload_n 3, 1) := by decide +kernel
theorem dX1_joined_77 : decode cX1_joined 77 = .ok (.lconst 0, 1) := by decide +kernel
theorem dX1_joined_78 : decode cX1_joined 78 = .ok (.lcmp, 1) := by decide +kernel
theorem dX1_joined_79 : decode cX1_joined 79 = .ok (.ifCond .ne 7, 3) := by decide +kernel
theorem dX1_joined_82 : decode cX1_joined 82 = .ok (.lconst 0, 1) := by decide +kernel
theorem dX1_joined_83 : decode cX1_joined 83 = .ok (.goto 8, 3) := by decide +kernel
theorem dX1_joined_86 : decode cX1_joined 86 = .ok (.lload_n 1, 1) := by decide +kernel
theorem dX1_joined_87 : decode cX1_joined 87 = .ok (.lload_n 3, 1) := by decide +kernel
theorem dX1_joined_88 : decode cX1_joined 88 = .ok (.invokestatic 39, 3) := by decide +kernel
theorem dX1_joined_91 : decode cX1_joined 91 = .ok (.lreturn, 1) := by decide +kernel
theorem dX1_joined_92 : decode cX1_joined 92 = .ok (.lload_n 3, 1) := by decide +kernel
theorem dX1_joined_93 : decode cX1_joined 93 = .ok (.lconst 0, 1) := by decide +kernel
theorem dX1_joined_94 : decode cX1_joined 94 = .ok (.lcmp, 1) := by decide +kernel
theorem dX1_joined_95 : decode cX1_joined 95 = .ok (.ifCond .ne 7, 3) := by decide +kernel
theorem dX1_joined_98 : decode cX1_joined 98 = .ok (.lconst 0, 1) := by decide +kernel
theorem dX1_joined_99 : decode cX1_joined 99 = .ok (.goto 8, 3) := by decide +kernel
theorem dX1_joined_102 : decode cX1_joined 102 = .ok (.lload_n 1, 1) := by decide +kernel
theorem dX1_joined_103 : decode cX1_joined 103 = .ok (.lload_n 3, 1) := by decide +kernel
theorem dX1_joined_104 : decode cX1_joined 104 = .ok (.invokestatic 42, 3) := by decide +kernel
theorem dX1_joined_107 : decode cX1_joined 107 = .ok (.lreturn, 1) := by decide +kernel
theorem dX1_joined_108 : decode cX1_joined 108 = .ok (.lload_n 1, 1) := by decide +kernel
theorem dX1_joined_109 : decode cX1_joined 109 = .ok (.lload_n 3, 1) := by decide +kernel
theorem dX1_joined_110 : decode cX1_joined 110 = .ok (.invokestatic 30, 3) := by decide +kernel
theorem dX1_joined_113 : decode cX1_joined 113 = .ok (.lreturn, 1) := by decide +kernel
theorem dX1_joined_114 : decode cX1_joined 114 = .ok (.lload_n 1, 1) := by decide +kernel
theorem dX1_joined_115 : decode cX1_joined 115 = .ok (.lload_n 3, 1) := by decide +kernel
theorem dX1_joined_116 : decode cX1_joined 116 = .ok (.invokestatic 36, 3) := by decide +kernel
theorem dX1_joined_119 : decode cX1_joined 119 = .ok (.lreturn, 1) := by decide +kernel
theorem dX1_joined_120 : decode cX1_joined 120 = .ok (.lload_n 1, 1) := by decide +kernel
theorem dX1_joined_121 : decode cX1_joined 121 = .ok (.lload_n 3, 1) := by decide +kernel
theorem dX1_joined_122 : decode cX1_joined 122 = .ok (.lcmp, 1) := by decide +kernel
theorem dX1_joined_123 : decode cX1_joined 123 = .ok (.ifCond .ge 7, 3) := by decide +kernel
theorem dX1_joined_126 : decode cX1_joined 126 = .ok (.lconst 1, 1) := by decide +kernel
theorem dX1_joined_127 : decode cX1_joined 127 = .ok (.goto 4, 3) := by decide +kernel
theorem dX1_joined_130 : decode cX1_joined 130 = .ok (.lconst 0, 1) := by decide +kernel
theorem dX1_joined_131 : decode cX1_joined 131 = .ok (.lreturn, 1) := by decide +kernel
theorem dX1_joined_132 : decode cX1_joined 132 = .ok (.lload_n 1, 1) := by decide +kernel
theorem dX1_joined_133 : decode cX1_joined 133 = .ok (.lload_n 3, 1) := by decide +kernel
theorem dX1_joined_134 : decode cX1_joined 134 = .ok (.lcmp, 1) := by decide +kernel
theorem dX1_joined_135 : decode cX1_joined 135 = .ok (.ifCond .le 7, 3) := by decide +kernel
theorem dX1_joined_138 : decode cX1_joined 138 = .ok (.lconst 1, 1) := by decide +kernel
theorem dX1_joined_139 : decode cX1_joined 139 = .ok (.goto 4, 3) := by decide +kernel
theorem dX1_joined_142 : decode cX1_joined 142 = .ok (.lconst 0, 1) := by decide +kernel
theorem dX1_joined_143 : decode cX1_joined 143 = .ok (.lreturn, 1) := by decide +kernel
theorem dX1_joined_144 : decode cX1_joined 144 = .ok (.lload_n 1, 1) := by decide +kernel
theorem dX1_joined_145 : decode cX1_joined 145 = .ok (.lload_n 3, 1) := by decide +kernel
theorem dX1_joined_146 : decode cX1_joined 146 = .ok (.lcmp, 1) := by decide +kernel
theorem dX1_joined_147 : decode cX1_joined 147 = .ok (.ifCond .ne 7, 3) := by decide +kernel
theorem dX1_joined_150 : decode cX1_joined 150 = .ok (.lconst 1, 1) := by decide +kernel
theorem dX1_joined_151 : decode cX1_joined 151 = .ok (.goto 4, 3) := by decide +kernel
theorem dX1_joined_154 : decode cX1_joined 154 = .ok (.lconst 0, 1) := by decide +kernel
theorem dX1_joined_155 : decode cX1_joined 155 = .ok (.lreturn, 1) := by decide +kernel
theorem dX1_joined_156 : decode cX1_joined 156 = .ok (.lload_n 1, 1) := by decide +kernel
theorem dX1_joined_157 : decode cX1_joined 157 = .ok (.lload_n 3, 1) := by decide +kernel
theorem dX1_joined_158 : decode cX1_joined 158 = .ok (.land, 1) := by decide +kernel
theorem dX1_joined_159 : decode cX1_joined 159 = .ok (.lreturn, 1) := by decide +kernel
theorem dX1_joined_160 : decode cX1_joined 160 = .ok (.lload_n 1, 1) := by decide +kernel
theorem dX1_joined_161 : decode cX1_joined 161 = .ok (.lload_n 3, 1) := by decide +kernel
theorem dX1_joined_162 : decode cX1_joined 162 = .ok (.lor, 1) := by decide +kernel
theorem dX1_joined_163 : decode cX1_joined 163 = .ok (.lreturn, 1) := by decide +kernel
theorem dX1_joined_164 : decode cX1_joined 164 = .ok (.lconst 0, 1) := by decide +kernel
theorem dX1_joined_165 : decode cX1_joined 165 = .ok (.lreturn, 1) := by decide +kernel
theorem dX1_value_0 : decode cX1_value 0 = .ok (.iconst 0, 1) := by decide +kernel
theorem dX1_value_1 : decode cX1_value 1 = .ok (.istore_n 2, 1) := by decide +kernel
theorem dX1_value_2 : decode cX1_value 2 = .ok (.iconst 0, 1) := by decide +kernel
theorem dX1_value_3 : decode cX1_value 3 = .ok (.istore_n 3, 1) := by decide +kernel
theorem dX1_value_4 : decode cX1_value 4 = .ok (.iload_n 3, 1) := by decide +kernel
theorem dX1_value_5 : decode cX1_value 5 = .ok (.aload_n 0, 1) := by decide +kernel
theorem dX1_value_6 : decode cX1_value 6 = .ok (.getfield 18, 3) := by decide +kernel
theorem dX1_value_9 : decode cX1_value 9 = .ok (.if_icmp .ge 209, 3) := by decide +kernel
theorem dX1_value_12 : decode cX1_value 12 = .ok (.iload_n 2, 1) := by decide +kernel
theorem dX1_value_13 : decode cX1_value 13 = .ok (.bipush 64, 2) := by decide +kernel
theorem dX1_value_15 : decode cX1_value 15 = .ok (.if_icmp .ge 203, 3) := by decide +kernel
theorem dX1_value_18 : decode cX1_value 18 = .ok (.aload_n 0, 1) := by decide +kernel
theorem dX1_value_19 : decode cX1_value 19 = .ok (.getfield 9, 3) := by decide +kernel
theorem dX1_value_22 : decode cX1_value 22 = .ok (.iload_n 3, 1) := by decide +kernel
theorem dX1_value_23 : decode cX1_value 23 = .ok (.iaload, 1) := by decide +kernel
theorem dX1_value_24 : decode cX1_value 24 = .ok (.istore 4, 2) := by decide +kernel
theorem dX1_value_26 : decode cX1_value 26 = .ok (.iload 4, 2) := by decide +kernel
theorem dX1_value_28 : decode cX1_value 28 = .ok (.ifCond .lt 17, 3) := by decide +kernel
theorem dX1_value_31 : decode cX1_value 31 = .ok (.aload_n 0, 1) := by decide +kernel
theorem dX1_value_32 : decode cX1_value 32 = .ok (.getfield 15, 3) := by decide +kernel
theorem dX1_value_35 : decode cX1_value 35 = .ok (.iload_n 2, 1) := by decide +kernel
theorem dX1_value_36 : decode cX1_value 36 = .ok (.iload 4, 2) := by decide +kernel
theorem dX1_value_38 : decode cX1_value 38 = .ok (.iastore, 1) := by decide +kernel
theorem dX1_value_39 : decode cX1_value 39 = .ok (.iinc 2 1, 3) := by decide +kernel
theorem dX1_value_42 : decode cX1_value 42 = .ok (.goto 170, 3) := by decide +kernel
theorem dX1_value_45 : decode cX1_value 45 = .ok (.iload 4, 2) := by decide +kernel
theorem dX1_value_47 : decode cX1_value 47 = .ok (.bipush (-7), 2) := by decide +kernel
theorem dX1_value_49 : decode cX1_value 49 = .ok (.if_icmp .lt 21, 3) := by decide +kernel
theorem dX1_value_52 : decode cX1_value 52 = .ok (.aload_n 0, 1) := by decide +kernel
theorem dX1_value_53 : decode cX1_value 53 = .ok (.getfield 15, 3) := by decide +kernel
theorem dX1_value_56 : decode cX1_value 56 = .ok (.iload_n 2, 1) := by decide +kernel
theorem dX1_value_57 : decode cX1_value 57 = .ok (.aload_n 1, 1) := by decide +kernel
theorem dX1_value_58 : decode cX1_value 58 = .ok (.iconst (-1), 1) := by decide +kernel
theorem dX1_value_59 : decode cX1_value 59 = .ok (.iload 4, 2) := by decide +kernel
theorem dX1_value_61 : decode cX1_value 61 = .ok (.isub, 1) := by decide +kernel
theorem dX1_value_62 : decode cX1_value 62 = .ok (.iaload, 1) := by decide +kernel
theorem dX1_value_63 : decode cX1_value 63 = .ok (.iastore, 1) := by decide +kernel
theorem dX1_value_64 : decode cX1_value 64 = .ok (.iinc 2 1, 3) := by decide +kernel
theorem dX1_value_67 : decode cX1_value 67 = .ok (.goto 145, 3) := by decide +kernel
theorem dX1_value_70 : decode cX1_value 70 = .ok (.iload 4, 2) := by decide +kernel
theorem dX1_value_72 : decode cX1_value 72 = .ok (.bipush (-20), 2) := by decide +kernel
theorem dX1_value_74 : decode cX1_value 74 = .ok (.if_icmp .ne 29, 3) := by decide +kernel
theorem dX1_value_77 : decode cX1_value 77 = .ok (.iload_n 2, 1) := by decide +kernel
theorem dX1_value_78 : decode cX1_value 78 = .ok (.iconst 1, 1) := by decide +kernel
theorem dX1_value_79 : decode cX1_value 79 = .ok (.if_icmp .lt 24, 3) := by decide +kernel
theorem dX1_value_82 : decode cX1_value 82 = .ok (.aload_n 0, 1) := by decide +kernel
theorem dX1_value_83 : decode cX1_value 83 = .ok (.getfield 15, 3) := by decide +kernel
theorem dX1_value_86 : decode cX1_value 86 = .ok (.iload_n 2, 1) := by decide +kernel
theorem dX1_value_87 : decode cX1_value 87 = .ok (.iconst 1, 1) := by decide +kernel
theorem dX1_value_88 : decode cX1_value 88 = .ok (.isub, 1) := by decide +kernel
theorem dX1_value_89 : decode cX1_value 89 = .ok (.iconst 1, 1) := by decide +kernel
theorem dX1_value_90 : decode cX1_value 90 = .ok (.aload_n 0, 1) := by decide +kernel
theorem dX1_value_91 : decode cX1_value 91 = .ok (.getfield 15, 3) := by decide +kernel
theorem dX1_value_94 : decode cX1_value 94 = .ok (.iload_n 2, 1) := by decide +kernel
theorem dX1_value_95 : decode cX1_value 95 = .ok (.iconst 1, 1) := by decide +kernel
theorem dX1_value_96 : decode cX1_value 96 = .ok (.isub, 1) := by decide +kernel
theorem dX1_value_97 : decode cX1_value 97 = .ok (.iaload, 1) := by decide +kernel
theorem dX1_value_98 : decode cX1_value 98 = .ok (.isub, 1) := by decide +kernel
theorem dX1_value_99 : decode cX1_value 99 = .ok (.iastore, 1) := by decide +kernel
theorem dX1_value_100 : decode cX1_value 100 = .ok (.goto 112, 3) := by decide +kernel
theorem dX1_value_103 : decode cX1_value 103 = .ok (.iload 4, 2) := by decide +kernel
theorem dX1_value_105 : decode cX1_value 105 = .ok (.bipush (-21), 2) := by decide +kernel
theorem dX1_value_107 : decode cX1_value 107 = .ok (.if_icmp .ne 51, 3) := by decide +kernel
theorem dX1_value_110 : decode cX1_value 110 = .ok (.iload_n 2, 1) := by decide +kernel
theorem dX1_value_111 : decode cX1_value 111 = .ok (.iconst 3, 1) := by decide +kernel
theorem dX1_value_112 : decode cX1_value 112 = .ok (.if_icmp .lt 46, 3) := by decide +kernel
theorem dX1_value_115 : decode cX1_value 115 = .ok (.iinc 2 (-2), 3) := by decide +kernel
theorem dX1_value_118 : decode cX1_value 118 = .ok (.aload_n 0, 1) := by decide +kernel
theorem dX1_value_119 : decode cX1_value 119 = .ok (.getfield 15, 3) := by decide +kernel
theorem dX1_value_122 : decode cX1_value 122 = .ok (.iload_n 2, 1) := by decide +kernel
theorem dX1_value_123 : decode cX1_value 123 = .ok (.iconst 1, 1) := by decide +kernel
theorem dX1_value_124 : decode cX1_value 124 = .ok (.isub, 1) := by decide +kernel
theorem dX1_value_125 : decode cX1_value 125 = .ok (.aload_n 0, 1) := by decide +kernel
theorem dX1_value_126 : decode cX1_value 126 = .ok (.getfield 15, 3) := by decide +kernel
theorem dX1_value_129 : decode cX1_value 129 = .ok (.iload_n 2, 1) := by decide +kernel
theorem dX1_value_130 : decode cX1_value 130 = .ok (.iconst 1, 1) := by decide +kernel
theorem dX1_value_131 : decode cX1_value 131 = .ok (.isub, 1) := by decide +kernel
theorem dX1_value_132 : decode cX1_value 132 = .ok (.iaload, 1) := by decide +kernel
theorem dX1_value_133 : decode cX1_value 133 = .ok (.iconst 1, 1) := by decide +kernel
theorem dX1_value_134 : decode cX1_value 134 = .ok (.if_icmp .ne 12, 3) := by decide +kernel
theorem dX1_value_137 : decode cX1_value 137 = .ok (.aload_n 0, 1) := by decide +kernel
theorem dX1_value_138 : decode cX1_value 138 = .ok (.getfield 15, 3) := by decide +kernel
theorem dX1_value_141 : decode cX1_value 141 = .ok (.iload_n 2, 1) := by decide +kernel
theorem dX1_value_142 : decode cX1_value 142 = .ok (.iaload, 1) := by decide +kernel
theorem dX1_value_143 : decode cX1_value 143 = .ok (.goto 11, 3) := by decide +kernel
theorem dX1_value_146 : decode cX1_value 146 = .ok (.aload_n 0, 1) := by decide +kernel
theorem dX1_value_147 : decode cX1_value 147 = .ok (.getfield 15, 3) := by decide +kernel
theorem dX1_value_150 : decode cX1_value 150 = .ok (.iload_n 2, 1) := by decide +kernel
theorem dX1_value_151 : decode cX1_value 151 = .ok (.iconst 1, 1) := by decide +kernel
theorem dX1_value_152 : decode cX1_value 152 = .ok (.iadd, 1) := by decide +kernel
theorem dX1_value_153 : decode cX1_value 153 = .ok (.iaload, 1) := by decide +kernel
theorem dX1_value_154 : decode cX1_value 154 = .ok (.iastore, 1) := by decide +kernel
theorem dX1_value_155 : decode cX1_value 155 = .ok (.goto 57, 3) := by decide +kernel
theorem dX1_value_158 : decode cX1_value 158 = .ok (.iload_n 2, 1) := by decide +kernel
theorem dX1_value_159 : decode cX1_value 159 = .ok (.iconst 2, 1) := by decide +kernel
theorem dX1_value_160 : decode cX1_value 160 = .ok (.if_icmp .lt 52, 3) := by decide +kernel
theorem dX1_value_163 : decode cX1_value 163 = .ok (.iinc 2 (-1), 3) := by decide +kernel
theorem dX1_value_166 : decode cX1_value 166 = .ok (.iload 4, 2) := by decide +kernel
theorem dX1_value_168 : decode cX1_value 168 = .ok (.aload_n 0, 1) := by decide +kernel
theorem dX1_value_169 : decode cX1_value 169 = .ok (.getfield 15, 3) := by decide +kernel
theorem dX1_value_172 : decode cX1_value 172 = .ok (.iload_n 2, 1) := by decide +kernel
theorem dX1_value_173 : decode cX1_value 173 = .ok (.iconst 1, 1) := by decide +kernel
theorem dX1_value_174 : decode cX1_value 174 = .ok (.isub, 1) := by decide +kernel
theorem dX1_value_175 : decode cX1_value 175 = .ok (.iaload, 1) := by decide +kernel
theorem dX1_value_176 : decode cX1_value 176 = .ok (.i2l, 1) := by decide +kernel
theorem dX1_value_177 : decode cX1_value 177 = .ok (.aload_n 0, 1) := by decide +kernel
theorem dX1_value_178 : decode cX1_value 178 = .ok (.getfield 15, 3) := by decide +kernel
theorem dX1_value_181 : decode cX1_value 181 = .ok (.iload_n 2, 1) := by decide +kernel
theorem dX1_value_182 : decode cX1_value 182 = .ok (.iaload, 1) := by decide +kernel
theorem dX1_value_183 : decode cX1_value 183 = .ok (.i2l, 1) := by decide +kernel
theorem dX1_value_184 : decode cX1_value 184 = .ok (.invokestatic 22, 3) := by decide +kernel
theorem dX1_value_187 : decode cX1_value 187 = .ok (.lstore 5, 2) := by decide +kernel
theorem dX1_value_189 : decode cX1_value 189 = .ok (.aload_n 0, 1) := by decide +kernel
theorem dX1_value_190 : decode cX1_value 190 = .ok (.getfield 15, 3) := by decide +kernel
theorem dX1_value_193 : decode cX1_value 193 = .ok (.iload_n 2, 1) := by decide +kernel
theorem dX1_value_194 : decode cX1_value 194 = .ok (.iconst 1, 1) := by decide +kernel
theorem dX1_value_195 : decode cX1_value 195 = .ok (.isub, 1) := by decide +kernel
theorem dX1_value_196 : decode cX1_value 196 = .ok (.ldc2_w 26, 3) := by decide +kernel
theorem dX1_value_199 : decode cX1_value 199 = .ok (.ldc2_w 28, 3) := by decide +kernel
theorem dX1_value_202 : decode cX1_value 202 = .ok (.lload 5, 2) := by decide +kernel
theorem dX1_value_204 : decode cX1_value 204 = .ok (.invokestatic 30, 3) := by decide +kernel
theorem dX1_value_207 : decode cX1_value 207 = .ok (.invokestatic 36, 3) := by decide +kernel
theorem dX1_value_210 : decode cX1_value 210 = .ok (.l2i, 1) := by decide +kernel
theorem dX1_value_211 : decode cX1_value 211 = .ok (.iastore, 1) := by decide +kernel
theorem dX1_value_212 : decode cX1_value 212 = .ok (.iinc 3 1, 3) := by decide +kernel
theorem dX1_value_215 : decode cX1_value 215 = .ok (.goto (-211), 3) := by decide +kernel
theorem dX1_value_218 : decode cX1_value 218 = .ok (.iload_n 2, 1) := by decide +kernel
theorem dX1_value_219 : decode cX1_value 219 = .ok (.ifCond .le 12, 3) := by decide +kernel
theorem dX1_value_222 : decode cX1_value 222 = .ok (.aload_n 0, 1) := by decide +kernel
theorem dX1_value_223 : decode cX1_value 223 = .ok (.getfield 15, 3) := by decide +kernel
theorem dX1_value_226 : decode cX1_value 226 = .ok (.iconst 0, 1) := by decide +kernel
theorem dX1_value_227 : decode cX1_value 227 = .ok (.iaload, 1) := by decide +kernel
theorem dX1_value_228 : decode cX1_value 228 = .ok (.goto 4, 3) := by decide +kernel
theorem dX1_value_231 : decode cX1_value 231 = .ok (.iconst 0, 1) := by decide +kernel
theorem dX1_value_232 : decode cX1_value 232 = .ok (.ireturn, 1) := by decide +kernel
theorem dX2_readInto_0 : decode cX2_readInto 0 = .ok (.aload_n 0, 1) := by decide +kernel
theorem dX2_readInto_1 : decode cX2_readInto 1 = .ok (.aload_n 1, 1) := by decide +kernel
theorem dX2_readInto_2 : decode cX2_readInto 2 = .ok (.putfield 15, 3) := by decide +kernel
theorem dX2_readInto_5 : decode cX2_readInto 5 = .ok (.aload_n 0, 1) := by decide +kernel
theorem dX2_readInto_6 : decode cX2_readInto 6 = .ok (.iload_n 2, 1) := by decide +kernel
theorem dX2_readInto_7 : decode cX2_readInto 7 = .ok (.putfield 19, 3) := by decide +kernel
theorem dX2_readInto_10 : decode cX2_readInto 10 = .ok (.return_, 1) := by decide +kernel
theorem dX7_isOwn_0 : decode cX7_isOwn 0 = .ok (.aload_n 0, 1) := by decide +kernel
theorem dX7_isOwn_1 : decode cX7_isOwn 1 = .ok (.getfield 43, 3) := by decide +kernel
theorem dX7_isOwn_4 : decode cX7_isOwn 4 = .ok (.iconst 1, 1) := by decide +kernel
theorem dX7_isOwn_5 : decode cX7_isOwn 5 = .ok (.if_icmp .ne 15, 3) := by decide +kernel
theorem dX7_isOwn_8 : decode cX7_isOwn 8 = .ok (.aload_n 0, 1) := by decide +kernel
theorem dX7_isOwn_9 : decode cX7_isOwn 9 = .ok (.getfield 55, 3) := by decide +kernel
theorem dX7_isOwn_12 : decode cX7_isOwn 12 = .ok (.iload_n 1, 1) := by decide +kernel
theorem dX7_isOwn_13 : decode cX7_isOwn 13 = .ok (.if_icmp .ne 7, 3) := by decide +kernel
theorem dX7_isOwn_16 : decode cX7_isOwn 16 = .ok (.iconst 1, 1) := by decide +kernel
theorem dX7_isOwn_17 : decode cX7_isOwn 17 = .ok (.goto 4, 3) := by decide +kernel
theorem dX7_isOwn_20 : decode cX7_isOwn 20 = .ok (.iconst 0, 1) := by decide +kernel
theorem dX7_isOwn_21 : decode cX7_isOwn 21 = .ok (.ireturn, 1) := by decide +kernel
theorem dX7_fail_0 : decode cX7_fail 0 = .ok (.aload_n 0, 1) := by decide +kernel
theorem dX7_fail_1 : decode cX7_fail 1 = .ok (.iload_n 1, 1) := by decide +kernel
theorem dX7_fail_2 : decode cX7_fail 2 = .ok (.putfield 37, 3) := by decide +kernel
theorem dX7_fail_5 : decode cX7_fail 5 = .ok (.aload_n 0, 1) := by decide +kernel
theorem dX7_fail_6 : decode cX7_fail 6 = .ok (.aload_n 0, 1) := by decide +kernel
theorem dX7_fail_7 : decode cX7_fail 7 = .ok (.getfield 49, 3) := by decide +kernel
theorem dX7_fail_10 : decode cX7_fail 10 = .ok (.putfield 15, 3) := by decide +kernel
theorem dX7_fail_13 : decode cX7_fail 13 = .ok (.iconst 0, 1) := by decide +kernel
theorem dX7_fail_14 : decode cX7_fail 14 = .ok (.ireturn, 1) := by decide +kernel
theorem dX7_letterAt_0 : decode cX7_letterAt 0 = .ok (.iload_n 1, 1) := by decide +kernel
theorem dX7_letterAt_1 : decode cX7_letterAt 1 = .ok (.aload_n 0, 1) := by decide +kernel
theorem dX7_letterAt_2 : decode cX7_letterAt 2 = .ok (.getfield 34, 3) := by decide +kernel
theorem dX7_letterAt_5 : decode cX7_letterAt 5 = .ok (.if_icmp .ge 39, 3) := by decide +kernel
theorem dX7_letterAt_8 : decode cX7_letterAt 8 = .ok (.aload_n 0, 1) := by decide +kernel
theorem dX7_letterAt_9 : decode cX7_letterAt 9 = .ok (.getfield 9, 3) := by decide +kernel
theorem dX7_letterAt_12 : decode cX7_letterAt 12 = .ok (.iload_n 1, 1) := by decide +kernel
theorem dX7_letterAt_13 : decode cX7_letterAt 13 = .ok (.iaload, 1) := by decide +kernel
theorem dX7_letterAt_14 : decode cX7_letterAt 14 = .ok (.bipush 97, 2) := by decide +kernel
theorem dX7_letterAt_16 : decode cX7_letterAt 16 = .ok (.if_icmp .lt 28, 3) := by decide +kernel
theorem dX7_letterAt_19 : decode cX7_letterAt 19 = .ok (.aload_n 0, 1) := by decide +kernel
theorem dX7_letterAt_20 : decode cX7_letterAt 20 = .ok (.getfield 9, 3) := by decide +kernel
theorem dX7_letterAt_23 : decode cX7_letterAt 23 = .ok (.iload_n 1, 1) := by decide +kernel
theorem dX7_letterAt_24 : decode cX7_letterAt 24 = .ok (.iaload, 1) := by decide +kernel
theorem dX7_letterAt_25 : decode cX7_letterAt 25 = .ok (.bipush 122, 2) := by decide +kernel
theorem dX7_letterAt_27 : decode cX7_letterAt 27 = .ok (.if_icmp .gt 17, 3) := by decide +kernel
theorem dX7_letterAt_30 : decode cX7_letterAt 30 = .ok (.aload_n 0, 1) := by decide +kernel
theorem dX7_letterAt_31 : decode cX7_letterAt 31 = .ok (.getfield 9, 3) := by decide +kernel
theorem dX7_letterAt_34 : decode cX7_letterAt 34 = .ok (.iload_n 1, 1) := by decide +kernel
theorem dX7_letterAt_35 : decode cX7_letterAt 35 = .ok (.iaload, 1) := by decide +kernel
theorem dX7_letterAt_36 : decode cX7_letterAt 36 = .ok (.bipush 97, 2) := by decide +kernel
theorem dX7_letterAt_38 : decode cX7_letterAt 38 = .ok (.isub, 1) := by decide +kernel
theorem dX7_letterAt_39 : decode cX7_letterAt 39 = .ok (.iconst 1, 1) := by decide +kernel
theorem dX7_letterAt_40 : decode cX7_letterAt 40 = .ok (.iadd, 1) := by decide +kernel
theorem dX7_letterAt_41 : decode cX7_letterAt 41 = .ok (.goto 4, 3) := by decide +kernel
theorem dX7_letterAt_44 : decode cX7_letterAt 44 = .ok (.iconst 0, 1) := by decide +kernel
theorem dX7_letterAt_45 : decode cX7_letterAt 45 = .ok (.ireturn, 1) := by decide +kernel
theorem dX7_readWord_0 : decode cX7_readWord 0 = .ok (.aload_n 0, 1) := by decide +kernel
theorem dX7_readWord_1 : decode cX7_readWord 1 = .ok (.iconst 1, 1) := by decide +kernel
theorem dX7_readWord_2 : decode cX7_readWord 2 = .ok (.putfield 43, 3) := by decide +kernel
theorem dX7_readWord_5 : decode cX7_readWord 5 = .ok (.aload_n 0, 1) := by decide +kernel
theorem dX7_readWord_6 : decode cX7_readWord 6 = .ok (.iconst 0, 1) := by decide +kernel
theorem dX7_readWord_7 : decode cX7_readWord 7 = .ok (.putfield 70, 3) := by decide +kernel
theorem dX7_readWord_10 : decode cX7_readWord 10 = .ok (.iconst 0, 1) := by decide +kernel
theorem dX7_readWord_11 : decode cX7_readWord 11 = .ok (.istore_n 1, 1) := by decide +kernel
theorem dX7_readWord_12 : decode cX7_readWord 12 = .ok (.iload_n 1, 1) := by decide +kernel
theorem dX7_readWord_13 : decode cX7_readWord 13 = .ok (.bipush 6, 2) := by decide +kernel
theorem dX7_readWord_15 : decode cX7_readWord 15 = .ok (.if_icmp .ge 48, 3) := by decide +kernel
theorem dX7_readWord_18 : decode cX7_readWord 18 = .ok (.aload_n 0, 1) := by decide +kernel
theorem dX7_readWord_19 : decode cX7_readWord 19 = .ok (.aload_n 0, 1) := by decide +kernel
theorem dX7_readWord_20 : decode cX7_readWord 20 = .ok (.getfield 40, 3) := by decide +kernel
theorem dX7_readWord_23 : decode cX7_readWord 23 = .ok (.invokevirtual 58, 3) := by decide +kernel
theorem dX7_readWord_26 : decode cX7_readWord 26 = .ok (.istore_n 2, 1) := by decide +kernel
theorem dX7_readWord_27 : decode cX7_readWord 27 = .ok (.aload_n 0, 1) := by decide +kernel
theorem dX7_readWord_28 : decode cX7_readWord 28 = .ok (.aload_n 0, 1) := by decide +kernel
theorem dX7_readWord_29 : decode cX7_readWord 29 = .ok (.getfield 70, 3) := by decide +kernel
theorem dX7_readWord_32 : decode cX7_readWord 32 = .ok (.iconst 5, 1) := by decide +kernel
theorem dX7_readWord_33 : decode cX7_readWord 33 = .ok (.ishl, 1) := by decide +kernel
theorem dX7_readWord_34 : decode cX7_readWord 34 = .ok (.iload_n 2, 1) := by decide +kernel
theorem dX7_readWord_35 : decode cX7_readWord 35 = .ok (.ior, 1) := by decide +kernel
theorem dX7_readWord_36 : decode cX7_readWord 36 = .ok (.putfield 70, 3) := by decide +kernel
theorem dX7_readWord_39 : decode cX7_readWord 39 = .ok (.aload_n 0, 1) := by decide +kernel
theorem dX7_readWord_40 : decode cX7_readWord 40 = .ok (.dup, 1) := by decide +kernel
theorem dX7_readWord_41 : decode cX7_readWord 41 = .ok (.getfield 40, 3) := by decide +kernel
theorem dX7_readWord_44 : decode cX7_readWord 44 = .ok (.iload_n 2, 1) := by decide +kernel
theorem dX7_readWord_45 : decode cX7_readWord 45 = .ok (.ifCond .le 7, 3) := by decide +kernel
theorem dX7_readWord_48 : decode cX7_readWord 48 = .ok (.iconst 1, 1) := by decide +kernel
theorem dX7_readWord_49 : decode cX7_readWord 49 = .ok (.goto 4, 3) := by decide +kernel
theorem dX7_readWord_52 : decode cX7_readWord 52 = .ok (.iconst 0, 1) := by decide +kernel
theorem dX7_readWord_53 : decode cX7_readWord 53 = .ok (.iadd, 1) := by decide +kernel
theorem dX7_readWord_54 : decode cX7_readWord 54 = .ok (.putfield 40, 3) := by decide +kernel
theorem dX7_readWord_57 : decode cX7_readWord 57 = .ok (.iinc 1 1, 3) := by decide +kernel
theorem dX7_readWord_60 : decode cX7_readWord 60 = .ok (.goto (-48), 3) := by decide +kernel
theorem dX7_readWord_63 : decode cX7_readWord 63 = .ok (.aload_n 0, 1) := by decide +kernel
theorem dX7_readWord_64 : decode cX7_readWord 64 = .ok (.aload_n 0, 1) := by decide +kernel
theorem dX7_readWord_65 : decode cX7_readWord 65 = .ok (.getfield 40, 3) := by decide +kernel
theorem dX7_readWord_68 : decode cX7_readWord 68 = .ok (.invokevirtual 58, 3) := by decide +kernel
theorem dX7_readWord_71 : decode cX7_readWord 71 = .ok (.ifCond .le 16, 3) := by decide +kernel
theorem dX7_readWord_74 : decode cX7_readWord 74 = .ok (.aload_n 0, 1) := by decide +kernel
theorem dX7_readWord_75 : decode cX7_readWord 75 = .ok (.iconst 4, 1) := by decide +kernel
theorem dX7_readWord_76 : decode cX7_readWord 76 = .ok (.putfield 43, 3) := by decide +kernel
theorem dX7_readWord_79 : decode cX7_readWord 79 = .ok (.aload_n 0, 1) := by decide +kernel
theorem dX7_readWord_80 : decode cX7_readWord 80 = .ok (.aload_n 0, 1) := by decide +kernel
theorem dX7_readWord_81 : decode cX7_readWord 81 = .ok (.getfield 40, 3) := by decide +kernel
theorem dX7_readWord_84 : decode cX7_readWord 84 = .ok (.putfield 52, 3) := by decide +kernel
theorem dX7_readWord_87 : decode cX7_readWord 87 = .ok (.iconst 0, 1) := by decide +kernel
theorem dX7_readWord_88 : decode cX7_readWord 88 = .ok (.istore_n 1, 1) := by decide +kernel
theorem dX7_readWord_89 : decode cX7_readWord 89 = .ok (.iload_n 1, 1) := by decide +kernel
theorem dX7_readWord_90 : decode cX7_readWord 90 = .ok (.bipush 24, 2) := by decide +kernel
theorem dX7_readWord_92 : decode cX7_readWord 92 = .ok (.if_icmp .ge 27, 3) := by decide +kernel
theorem dX7_readWord_95 : decode cX7_readWord 95 = .ok (.aload_n 0, 1) := by decide +kernel
theorem dX7_readWord_96 : decode cX7_readWord 96 = .ok (.getfield 19, 3) := by decide +kernel
theorem dX7_readWord_99 : decode cX7_readWord 99 = .ok (.iload_n 1, 1) := by decide +kernel
theorem dX7_readWord_100 : decode cX7_readWord 100 = .ok (.iaload, 1) := by decide +kernel
theorem dX7_readWord_101 : decode cX7_readWord 101 = .ok (.aload_n 0, 1) := by decide +kernel
theorem dX7_readWord_102 : decode cX7_readWord 102 = .ok (.getfield 70, 3) := by decide +kernel
theorem dX7_readWord_105 : decode cX7_readWord 105 = .ok (.if_icmp .ne 8, 3) := by decide +kernel
theorem dX7_readWord_108 : decode cX7_readWord 108 = .ok (.aload_n 0, 1) := by decide +kernel
theorem dX7_readWord_109 : decode cX7_readWord 109 = .ok (.iload_n 1, 1) := by decide +kernel
theorem dX7_readWord_110 : decode cX7_readWord 110 = .ok (.putfield 55, 3) := by decide +kernel
theorem dX7_readWord_113 : decode cX7_readWord 113 = .ok (.iinc 1 1, 3) := by decide +kernel
theorem dX7_readWord_116 : decode cX7_readWord 116 = .ok (.goto (-27), 3) := by decide +kernel
theorem dX7_readWord_119 : decode cX7_readWord 119 = .ok (.return_, 1) := by decide +kernel
set_option maxRecDepth 20000 in
theorem t_J6_bitCount_0f7a4 {l : Launch} {Y : YT} (hY : YOK Y) {a0 : Int} {M : Mem} {Q : Int → Mem → Prop} (h : m_J6_bitCount_0f7a4 a0 M Q) : Ctr l Y yJ6_bitCount_0f7a4 cJ6_bitCount_0f7a4 1 (some .int) 1 [vI a0] M (PQi Y Q) := by
  unfold m_J6_bitCount_0f7a4 at h
  refine ctr_ofF hY (by decide +kernel) (Nat.le_of_ble_eq_true rfl) [(0, vI a0)] rfl (fun X hX C hR => ?_)
  refine g_iload_n (q := 0) C dJ6_bitCount_0f7a4_0 rfl rfl ?_
  refine g_iload_n (q := 0) C dJ6_bitCount_0f7a4_1 rfl rfl ?_
  refine g_iconst C dJ6_bitCount_0f7a4_2 rfl ?_
  refine g_iushr C dJ6_bitCount_0f7a4_3 ?_
  refine g_ldcw (v := 1431655765) C dJ6_bitCount_0f7a4_4 kJ6_265 (by decide +kernel) ?_
  refine g_iand C dJ6_bitCount_0f7a4_7 ?_
  refine g_isub C dJ6_bitCount_0f7a4_8 ?_
  obtain ⟨x1, e_x1⟩ : ∃ z : Int, z = a0 - (zand (zushr a0 1) 1431655765) := ⟨_, rfl⟩
  have h := h x1 e_x1
  refine G.nmI e_x1 ?_
  refine g_istore_n (lv' := [(0, vI x1)]) C dJ6_bitCount_0f7a4_9 rfl (by decide) rfl ?_
  refine g_iload_n (q := 0) C dJ6_bitCount_0f7a4_10 rfl rfl ?_
  refine g_ldcw (v := 858993459) C dJ6_bitCount_0f7a4_11 kJ6_266 (by decide +kernel) ?_
  refine g_iand C dJ6_bitCount_0f7a4_14 ?_
  refine g_iload_n (q := 0) C dJ6_bitCount_0f7a4_15 rfl rfl ?_
  refine g_iconst C dJ6_bitCount_0f7a4_16 rfl ?_
  refine g_iushr C dJ6_bitCount_0f7a4_17 ?_
  refine g_ldcw (v := 858993459) C dJ6_bitCount_0f7a4_18 kJ6_266 (by decide +kernel) ?_
  refine g_iand C dJ6_bitCount_0f7a4_21 ?_
  refine g_iadd C dJ6_bitCount_0f7a4_22 ?_
  obtain ⟨x2, e_x2⟩ : ∃ z : Int, z = (zand x1 858993459) + (zand (zushr x1 2) 858993459) := ⟨_, rfl⟩
  have h := h x2 e_x2
  refine G.nmI e_x2 ?_
  refine g_istore_n (lv' := [(0, vI x2)]) C dJ6_bitCount_0f7a4_23 rfl (by decide) rfl ?_
  refine g_iload_n (q := 0) C dJ6_bitCount_0f7a4_24 rfl rfl ?_
  refine g_iload_n (q := 0) C dJ6_bitCount_0f7a4_25 rfl rfl ?_
  refine g_iconst C dJ6_bitCount_0f7a4_26 rfl ?_
  refine g_iushr C dJ6_bitCount_0f7a4_27 ?_
  refine g_iadd C dJ6_bitCount_0f7a4_28 ?_
  refine g_ldcw (v := 252645135) C dJ6_bitCount_0f7a4_29 kJ6_267 (by decide +kernel) ?_
  refine g_iand C dJ6_bitCount_0f7a4_32 ?_
  obtain ⟨x3, e_x3⟩ : ∃ z : Int, z = zand (x2 + (zushr x2 4)) 252645135 := ⟨_, rfl⟩
  have h := h x3 e_x3
  refine G.nmI e_x3 ?_
  refine g_istore_n (lv' := [(0, vI x3)]) C dJ6_bitCount_0f7a4_33 rfl (by decide) rfl ?_
  refine g_iload_n (q := 0) C dJ6_bitCount_0f7a4_34 rfl rfl ?_
  refine g_iload_n (q := 0) C dJ6_bitCount_0f7a4_35 rfl rfl ?_
  refine g_bipush (v := 8) C dJ6_bitCount_0f7a4_36 (by decide +kernel) ?_
  refine g_iushr C dJ6_bitCount_0f7a4_38 ?_
  refine g_iadd C dJ6_bitCount_0f7a4_39 ?_
  refine g_istore_n (lv' := [(0, vI (x3 + (zushr x3 8)))]) C dJ6_bitCount_0f7a4_40 rfl (by decide) rfl ?_
  refine g_iload_n (q := 0) C dJ6_bitCount_0f7a4_41 rfl rfl ?_
  refine g_iload_n (q := 0) C dJ6_bitCount_0f7a4_42 rfl rfl ?_
  refine g_bipush (v := 16) C dJ6_bitCount_0f7a4_43 (by decide +kernel) ?_
  refine g_iushr C dJ6_bitCount_0f7a4_45 ?_
  refine g_iadd C dJ6_bitCount_0f7a4_46 ?_
  obtain ⟨x4, e_x4⟩ : ∃ z : Int, z = (x3 + (zushr x3 8)) + (zushr (x3 + (zushr x3 8)) 16) := ⟨_, rfl⟩
  have h := h x4 e_x4
  refine G.nmI e_x4 ?_
  refine g_istore_n (lv' := [(0, vI x4)]) C dJ6_bitCount_0f7a4_47 rfl (by decide) rfl ?_
  refine g_iload_n (q := 0) C dJ6_bitCount_0f7a4_48 rfl rfl ?_
  refine g_bipush (v := 63) C dJ6_bitCount_0f7a4_49 (by decide +kernel) ?_
  refine g_iand C dJ6_bitCount_0f7a4_51 ?_
  exact g_reti C hR dJ6_bitCount_0f7a4_52 h
set_option maxRecDepth 20000 in
theorem w_J9_floorDiv_f86c9_J27 {Y : YT} {X : CX} (C : Cx Y X cJ9_floorDiv_f86c9 6 RJ9 1) {Q : Int → Mem → Prop} (hR : Rt Y X (some .long) (PQl Y Q)) {v4 : Int}  {M : Mem}  (h : m_J9_floorDiv_f86c9_J27  Q v4 M) : G Y X 6 27 [(4, vL v4)] ([]) M := by
  unfold m_J9_floorDiv_f86c9_J27 at h
  refine g_lload (q := 0) C dJ9_floorDiv_f86c9_27 rfl ?_
  exact g_retl C hR dJ9_floorDiv_f86c9_29 h
set_option maxRecDepth 20000 in
theorem t_J9_floorDiv_f86c9 {l : Launch} {Y : YT} (hY : YOK Y) {a0 : Int} {a1 : Int} {M : Mem} {Q : Int → Mem → Prop} (h : m_J9_floorDiv_f86c9 a0 a1 M Q) : Ctr l Y yJ9_floorDiv_f86c9 cJ9_floorDiv_f86c9 6 (some .long) 1 [vL a0, vL a1] M (PQl Y Q) := by
  unfold m_J9_floorDiv_f86c9 at h
  refine ctr_ofF hY (by decide +kernel) (Nat.le_of_ble_eq_true rfl) [(0, vL a0), (2, vL a1)] rfl (fun X hX C hR => ?_)
  refine g_lload_n (q := 0) C dJ9_floorDiv_f86c9_0 rfl rfl ?_
  refine g_lload_n (q := 1) C dJ9_floorDiv_f86c9_1 rfl rfl ?_
  obtain ⟨g1, h⟩ := h
  obtain ⟨g2, h⟩ := h
  obtain ⟨g3, h⟩ := h
  refine g_ldiv C dJ9_floorDiv_f86c9_2 g1 g2 g3 ?_
  refine g_lstore (lv' := [(4, vL (a0.tdiv a1)), (0, vL a0), (2, vL a1)]) C dJ9_floorDiv_f86c9_3 (by decide) rfl ?_
  refine g_lload_n (q := 1) C dJ9_floorDiv_f86c9_5 rfl rfl ?_
  refine g_lload_n (q := 2) C dJ9_floorDiv_f86c9_6 rfl rfl ?_
  refine g_lxor C dJ9_floorDiv_f86c9_7 ?_
  refine g_lconst (v := 0) C dJ9_floorDiv_f86c9_8 (by decide +kernel) ?_
  obtain ⟨g4, h⟩ := h
  obtain ⟨ht, hf⟩ := h
  refine g_lcmp_ge (tgt := 27) C dJ9_floorDiv_f86c9_9 dJ9_floorDiv_f86c9_10 (by decide) g4 (by decide) (fun c => ?_) (fun c => ?_)
  · have h := ht c
    refine G.sub [0] rfl ?_
    exact w_J9_floorDiv_f86c9_J27 C hR  h
  · have h := hf c
    refine g_lload (q := 0) C dJ9_floorDiv_f86c9_13 rfl ?_
    refine g_lload_n (q := 2) C dJ9_floorDiv_f86c9_15 rfl rfl ?_
    refine g_lmul C dJ9_floorDiv_f86c9_16 ?_
    refine g_lload_n (q := 1) C dJ9_floorDiv_f86c9_17 rfl rfl ?_
    obtain ⟨g5, h⟩ := h
    obtain ⟨g6, h⟩ := h
    obtain ⟨ht, hf⟩ := h
    refine g_lcmp_eq (tgt := 27) C dJ9_floorDiv_f86c9_18 dJ9_floorDiv_f86c9_19 (by decide) g5 g6 (fun c => ?_) (fun c => ?_)
    · have h := ht c
      refine G.sub [0] rfl ?_
      exact w_J9_floorDiv_f86c9_J27 C hR  h
    · have h := hf c
      refine g_lload (q := 0) C dJ9_floorDiv_f86c9_22 rfl ?_
      refine g_lconst (v := 1) C dJ9_floorDiv_f86c9_24 (by decide +kernel) ?_
      refine g_lsub C dJ9_floorDiv_f86c9_25 ?_
      exact g_retl C hR dJ9_floorDiv_f86c9_26 h
set_option maxRecDepth 20000 in
theorem w_J9_floorMod_f86c9_J25 {Y : YT} {X : CX} (C : Cx Y X cJ9_floorMod_f86c9 6 RJ9 1) {Q : Int → Mem → Prop} (hR : Rt Y X (some .long) (PQl Y Q)) {v4 : Int}  {M : Mem}  (h : m_J9_floorMod_f86c9_J25  Q v4 M) : G Y X 6 25 [(4, vL v4)] ([]) M := by
  unfold m_J9_floorMod_f86c9_J25 at h
  refine g_lload (q := 0) C dJ9_floorMod_f86c9_25 rfl ?_
  exact g_retl C hR dJ9_floorMod_f86c9_27 h
set_option maxRecDepth 20000 in
theorem t_J9_floorMod_f86c9 {l : Launch} {Y : YT} (hY : YOK Y) {a0 : Int} {a1 : Int} {M : Mem} {Q : Int → Mem → Prop} (h : m_J9_floorMod_f86c9 a0 a1 M Q) : Ctr l Y yJ9_floorMod_f86c9 cJ9_floorMod_f86c9 6 (some .long) 1 [vL a0, vL a1] M (PQl Y Q) := by
  unfold m_J9_floorMod_f86c9 at h
  refine ctr_ofF hY (by decide +kernel) (Nat.le_of_ble_eq_true rfl) [(0, vL a0), (2, vL a1)] rfl (fun X hX C hR => ?_)
  refine g_lload_n (q := 0) C dJ9_floorMod_f86c9_0 rfl rfl ?_
  refine g_lload_n (q := 1) C dJ9_floorMod_f86c9_1 rfl rfl ?_
  obtain ⟨g1, h⟩ := h
  obtain ⟨g2, h⟩ := h
  obtain ⟨g3, h⟩ := h
  refine g_lrem C dJ9_floorMod_f86c9_2 g1 g2 g3 ?_
  refine g_lstore (lv' := [(4, vL (a0.tmod a1)), (0, vL a0), (2, vL a1)]) C dJ9_floorMod_f86c9_3 (by decide) rfl ?_
  refine g_lload_n (q := 1) C dJ9_floorMod_f86c9_5 rfl rfl ?_
  refine g_lload_n (q := 2) C dJ9_floorMod_f86c9_6 rfl rfl ?_
  refine g_lxor C dJ9_floorMod_f86c9_7 ?_
  refine g_lconst (v := 0) C dJ9_floorMod_f86c9_8 (by decide +kernel) ?_
  obtain ⟨g4, h⟩ := h
  obtain ⟨ht, hf⟩ := h
  refine g_lcmp_ge (tgt := 25) C dJ9_floorMod_f86c9_9 dJ9_floorMod_f86c9_10 (by decide) g4 (by decide) (fun c => ?_) (fun c => ?_)
  · have h := ht c
    refine G.sub [0] rfl ?_
    exact w_J9_floorMod_f86c9_J25 C hR  h
  · have h := hf c
    refine g_lload (q := 0) C dJ9_floorMod_f86c9_13 rfl ?_
    refine g_lconst (v := 0) C dJ9_floorMod_f86c9_15 (by decide +kernel) ?_
    obtain ⟨g5, h⟩ := h
    obtain ⟨ht, hf⟩ := h
    refine g_lcmp_eq (tgt := 25) C dJ9_floorMod_f86c9_16 dJ9_floorMod_f86c9_17 (by decide) g5 (by decide) (fun c => ?_) (fun c => ?_)
    · have h := ht c
      refine G.sub [0] rfl ?_
      exact w_J9_floorMod_f86c9_J25 C hR  h
    · have h := hf c
      refine g_lload (q := 0) C dJ9_floorMod_f86c9_20 rfl ?_
      refine g_lload_n (q := 2) C dJ9_floorMod_f86c9_22 rfl rfl ?_
      refine g_ladd C dJ9_floorMod_f86c9_23 ?_
      exact g_retl C hR dJ9_floorMod_f86c9_24 h
set_option maxRecDepth 20000 in
theorem w_J9_max_7cf53_J10 {Y : YT} {X : CX} (C : Cx Y X cJ9_max_7cf53 2 RJ9 1) {Q : Int → Mem → Prop} (hR : Rt Y X (some .int) (PQi Y Q)) {s0 : Int}  {M : Mem}  (h : m_J9_max_7cf53_J10  Q s0 M) : G Y X 2 10 [] ((vI s0) :: []) M := by
  unfold m_J9_max_7cf53_J10 at h
  exact g_reti C hR dJ9_max_7cf53_10 h
set_option maxRecDepth 20000 in
theorem t_J9_max_7cf53 {l : Launch} {Y : YT} (hY : YOK Y) {a0 : Int} {a1 : Int} {M : Mem} {Q : Int → Mem → Prop} (h : m_J9_max_7cf53 a0 a1 M Q) : Ctr l Y yJ9_max_7cf53 cJ9_max_7cf53 2 (some .int) 1 [vI a0, vI a1] M (PQi Y Q) := by
  unfold m_J9_max_7cf53 at h
  refine ctr_ofF hY (by decide +kernel) (Nat.le_of_ble_eq_true rfl) [(0, vI a0), (1, vI a1)] rfl (fun X hX C hR => ?_)
  refine g_iload_n (q := 0) C dJ9_max_7cf53_0 rfl rfl ?_
  refine g_iload_n (q := 1) C dJ9_max_7cf53_1 rfl rfl ?_
  obtain ⟨g1, h⟩ := h
  obtain ⟨g2, h⟩ := h
  obtain ⟨ht, hf⟩ := h
  refine g_icmp_lt (tgt := 9) C dJ9_max_7cf53_2 (by decide) g1 g2 (fun c => ?_) (fun c => ?_)
  · have h := ht c
    refine g_iload_n (q := 1) C dJ9_max_7cf53_9 rfl rfl ?_
    refine G.sub [] rfl ?_
    exact w_J9_max_7cf53_J10 C hR  h
  · have h := hf c
    refine g_iload_n (q := 0) C dJ9_max_7cf53_5 rfl rfl ?_
    refine g_goto (tgt := 10) C dJ9_max_7cf53_6 (by decide) ?_
    refine G.sub [] rfl ?_
    exact w_J9_max_7cf53_J10 C hR  h
set_option maxRecDepth 20000 in
theorem w_J9_max_f86c9_J11 {Y : YT} {X : CX} (C : Cx Y X cJ9_max_f86c9 4 RJ9 1) {Q : Int → Mem → Prop} (hR : Rt Y X (some .long) (PQl Y Q)) {s0 : Int}  {M : Mem}  (h : m_J9_max_f86c9_J11  Q s0 M) : G Y X 4 11 [] ((vL s0) :: []) M := by
  unfold m_J9_max_f86c9_J11 at h
  exact g_retl C hR dJ9_max_f86c9_11 h
set_option maxRecDepth 20000 in
theorem t_J9_max_f86c9 {l : Launch} {Y : YT} (hY : YOK Y) {a0 : Int} {a1 : Int} {M : Mem} {Q : Int → Mem → Prop} (h : m_J9_max_f86c9 a0 a1 M Q) : Ctr l Y yJ9_max_f86c9 cJ9_max_f86c9 4 (some .long) 1 [vL a0, vL a1] M (PQl Y Q) := by
  unfold m_J9_max_f86c9 at h
  refine ctr_ofF hY (by decide +kernel) (Nat.le_of_ble_eq_true rfl) [(0, vL a0), (2, vL a1)] rfl (fun X hX C hR => ?_)
  refine g_lload_n (q := 0) C dJ9_max_f86c9_0 rfl rfl ?_
  refine g_lload_n (q := 1) C dJ9_max_f86c9_1 rfl rfl ?_
  obtain ⟨g1, h⟩ := h
  obtain ⟨g2, h⟩ := h
  obtain ⟨ht, hf⟩ := h
  refine g_lcmp_lt (tgt := 10) C dJ9_max_f86c9_2 dJ9_max_f86c9_3 (by decide) g1 g2 (fun c => ?_) (fun c => ?_)
  · have h := ht c
    refine g_lload_n (q := 1) C dJ9_max_f86c9_10 rfl rfl ?_
    refine G.sub [] rfl ?_
    exact w_J9_max_f86c9_J11 C hR  h
  · have h := hf c
    refine g_lload_n (q := 0) C dJ9_max_f86c9_6 rfl rfl ?_
    refine g_goto (tgt := 11) C dJ9_max_f86c9_7 (by decide) ?_
    refine G.sub [] rfl ?_
    exact w_J9_max_f86c9_J11 C hR  h
set_option maxRecDepth 20000 in
theorem w_J9_min_7cf53_J10 {Y : YT} {X : CX} (C : Cx Y X cJ9_min_7cf53 2 RJ9 1) {Q : Int → Mem → Prop} (hR : Rt Y X (some .int) (PQi Y Q)) {s0 : Int}  {M : Mem}  (h : m_J9_min_7cf53_J10  Q s0 M) : G Y X 2 10 [] ((vI s0) :: []) M := by
  unfold m_J9_min_7cf53_J10 at h
  exact g_reti C hR dJ9_min_7cf53_10 h
set_option maxRecDepth 20000 in
theorem t_J9_min_7cf53 {l : Launch} {Y : YT} (hY : YOK Y) {a0 : Int} {a1 : Int} {M : Mem} {Q : Int → Mem → Prop} (h : m_J9_min_7cf53 a0 a1 M Q) : Ctr l Y yJ9_min_7cf53 cJ9_min_7cf53 2 (some .int) 1 [vI a0, vI a1] M (PQi Y Q) := by
  unfold m_J9_min_7cf53 at h
  refine ctr_ofF hY (by decide +kernel) (Nat.le_of_ble_eq_true rfl) [(0, vI a0), (1, vI a1)] rfl (fun X hX C hR => ?_)
  refine g_iload_n (q := 0) C dJ9_min_7cf53_0 rfl rfl ?_
  refine g_iload_n (q := 1) C dJ9_min_7cf53_1 rfl rfl ?_
  obtain ⟨g1, h⟩ := h
  obtain ⟨g2, h⟩ := h
  obtain ⟨ht, hf⟩ := h
  refine g_icmp_gt (tgt := 9) C dJ9_min_7cf53_2 (by decide) g1 g2 (fun c => ?_) (fun c => ?_)
  · have h := ht c
    refine g_iload_n (q := 1) C dJ9_min_7cf53_9 rfl rfl ?_
    refine G.sub [] rfl ?_
    exact w_J9_min_7cf53_J10 C hR  h
  · have h := hf c
    refine g_iload_n (q := 0) C dJ9_min_7cf53_5 rfl rfl ?_
    refine g_goto (tgt := 10) C dJ9_min_7cf53_6 (by decide) ?_
    refine G.sub [] rfl ?_
    exact w_J9_min_7cf53_J10 C hR  h
set_option maxRecDepth 20000 in
theorem w_J9_min_f86c9_J11 {Y : YT} {X : CX} (C : Cx Y X cJ9_min_f86c9 4 RJ9 1) {Q : Int → Mem → Prop} (hR : Rt Y X (some .long) (PQl Y Q)) {s0 : Int}  {M : Mem}  (h : m_J9_min_f86c9_J11  Q s0 M) : G Y X 4 11 [] ((vL s0) :: []) M := by
  unfold m_J9_min_f86c9_J11 at h
  exact g_retl C hR dJ9_min_f86c9_11 h
set_option maxRecDepth 20000 in
theorem t_J9_min_f86c9 {l : Launch} {Y : YT} (hY : YOK Y) {a0 : Int} {a1 : Int} {M : Mem} {Q : Int → Mem → Prop} (h : m_J9_min_f86c9 a0 a1 M Q) : Ctr l Y yJ9_min_f86c9 cJ9_min_f86c9 4 (some .long) 1 [vL a0, vL a1] M (PQl Y Q) := by
  unfold m_J9_min_f86c9 at h
  refine ctr_ofF hY (by decide +kernel) (Nat.le_of_ble_eq_true rfl) [(0, vL a0), (2, vL a1)] rfl (fun X hX C hR => ?_)
  refine g_lload_n (q := 0) C dJ9_min_f86c9_0 rfl rfl ?_
  refine g_lload_n (q := 1) C dJ9_min_f86c9_1 rfl rfl ?_
  obtain ⟨g1, h⟩ := h
  obtain ⟨g2, h⟩ := h
  obtain ⟨ht, hf⟩ := h
  refine g_lcmp_gt (tgt := 10) C dJ9_min_f86c9_2 dJ9_min_f86c9_3 (by decide) g1 g2 (fun c => ?_) (fun c => ?_)
  · have h := ht c
    refine g_lload_n (q := 1) C dJ9_min_f86c9_10 rfl rfl ?_
    refine G.sub [] rfl ?_
    exact w_J9_min_f86c9_J11 C hR  h
  · have h := hf c
    refine g_lload_n (q := 0) C dJ9_min_f86c9_6 rfl rfl ?_
    refine g_goto (tgt := 11) C dJ9_min_f86c9_7 (by decide) ?_
    refine G.sub [] rfl ?_
    exact w_J9_min_f86c9_J11 C hR  h
set_option maxRecDepth 20000 in
theorem w_J7_fill_53178_L5 {Y : YT} {X : CX} (C : Cx Y X cJ7_fill_53178 4 RJ7 1) {Q : Mem → Prop} (hR : Rt Y X none (PQv Y Q)) {v0 : Int} {v1 : Int} {v3 : Int}  (hk_v0 : kd v0 = 20): ∀ (f : Nat) (v2 : Int) (M : Mem), m_J7_fill_53178_L5  Q v0 v1 v3 f v2 M → G Y X 4 5 [(0, vR Y v0), (1, vI v1), (2, vI v2), (3, vI v3)] ([]) M := by
  intro f
  induction f with
  | zero =>
    intro v2 M h
    exact (show False from h).elim
  | succ f ih =>
    intro v2 M h
    unfold m_J7_fill_53178_L5 at h
    refine g_iload_n (q := 2) C dJ7_fill_53178_5 rfl rfl ?_
    refine g_iload_n (q := 3) C dJ7_fill_53178_6 rfl rfl ?_
    obtain ⟨g1, h⟩ := h
    obtain ⟨g2, h⟩ := h
    obtain ⟨ht, hf⟩ := h
    refine g_icmp_ge (tgt := 20) C dJ7_fill_53178_7 (by decide) g1 g2 (fun c => ?_) (fun c => ?_)
    · have h := ht c
      exact g_retv C hR dJ7_fill_53178_20 h
    · have h := hf c
      refine g_aload_n (q := 0) C dJ7_fill_53178_10 rfl rfl ?_
      refine g_iload_n (q := 2) C dJ7_fill_53178_11 rfl rfl ?_
      refine g_iload_n (q := 1) C dJ7_fill_53178_12 rfl rfl ?_
      obtain ⟨g3, h⟩ := h
      obtain ⟨M4, e_M4⟩ : ∃ z : Mem, z = up M v0 v2 v1 := ⟨_, rfl⟩
      have h := h M4 e_M4
      refine g_iast C dJ7_fill_53178_13 hk_v0 rfl g3 e_M4 ?_
      refine g_iinc (q := 2) (v := v2 + 1) (lv' := [(2, vI (v2 + 1)), (0, vR Y v0), (1, vI v1), (3, vI v3)]) C dJ7_fill_53178_14 rfl rfl (by decide) rfl ?_
      refine g_goto (tgt := 5) C dJ7_fill_53178_17 (by decide) ?_
      refine G.sub [1, 2, 0, 3] rfl ?_
      exact ih _ _ h
set_option maxRecDepth 20000 in
theorem t_J7_fill_53178 {l : Launch} {Y : YT} (hY : YOK Y) {a0 : Int} {a1 : Int} {M : Mem} {Q : Mem → Prop} (h : m_J7_fill_53178 a0 a1 M Q) : Ctr l Y yJ7_fill_53178 cJ7_fill_53178 4 none 1 [vR Y a0, vI a1] M (PQv Y Q) := by
  unfold m_J7_fill_53178 at h
  obtain ⟨hk_a0, h⟩ := h
  refine ctr_ofF hY (by decide +kernel) (Nat.le_of_ble_eq_true rfl) [(0, vR Y a0), (1, vI a1)] rfl (fun X hX C hR => ?_)
  refine g_iconst C dJ7_fill_53178_0 rfl ?_
  refine g_istore_n (lv' := [(2, vI 0), (0, vR Y a0), (1, vI a1)]) C dJ7_fill_53178_1 rfl (by decide) rfl ?_
  refine g_aload_n (q := 1) C dJ7_fill_53178_2 rfl rfl ?_
  refine g_len C dJ7_fill_53178_3 hk_a0 ?_
  refine g_istore_n (lv' := [(3, vI (ln a0)), (2, vI 0), (0, vR Y a0), (1, vI a1)]) C dJ7_fill_53178_4 rfl (by decide) rfl ?_
  obtain ⟨f0, h⟩ := h
  refine G.sub [2, 3, 1, 0] rfl ?_
  exact w_J7_fill_53178_L5 C hR hk_a0 f0 _ _ h
set_option maxRecDepth 20000 in
theorem w_X11_isStep_J16 {Y : YT} {X : CX} (C : Cx Y X cX11_isStep 1 RX11 1) {Q : Int → Mem → Prop} (hR : Rt Y X (some .boolean) (PQi Y Q)) {s0 : Int}  {M : Mem}  (h : m_X11_isStep_J16  Q s0 M) : G Y X 1 16 [] ((vI s0) :: []) M := by
  unfold m_X11_isStep_J16 at h
  obtain ⟨g1, h⟩ := h
  exact g_retz C hR dX11_isStep_16 g1 h
set_option maxRecDepth 20000 in
theorem w_X11_isStep_J15 {Y : YT} {X : CX} (C : Cx Y X cX11_isStep 1 RX11 1) {Q : Int → Mem → Prop} (hR : Rt Y X (some .boolean) (PQi Y Q))   {M : Mem}  (h : m_X11_isStep_J15  Q  M) : G Y X 1 15 [] ([]) M := by
  unfold m_X11_isStep_J15 at h
  refine g_iconst C dX11_isStep_15 rfl ?_
  refine G.sub [] rfl ?_
  exact w_X11_isStep_J16 C hR  h
set_option maxRecDepth 20000 in
theorem t_X11_isStep {l : Launch} {Y : YT} (hY : YOK Y) {a0 : Int} {M : Mem} {Q : Int → Mem → Prop} (h : m_X11_isStep a0 M Q) : Ctr l Y yX11_isStep cX11_isStep 1 (some .boolean) 1 [vI a0] M (PQi Y Q) := by
  unfold m_X11_isStep at h
  refine ctr_ofF hY (by decide +kernel) (Nat.le_of_ble_eq_true rfl) [(0, vI a0)] rfl (fun X hX C hR => ?_)
  refine g_iload_n (q := 0) C dX11_isStep_0 rfl rfl ?_
  refine g_iconst C dX11_isStep_1 rfl ?_
  obtain ⟨g2, h⟩ := h
  obtain ⟨ht, hf⟩ := h
  refine g_icmp_lt (tgt := 15) C dX11_isStep_2 (by decide) g2 (by decide) (fun c => ?_) (fun c => ?_)
  · have h := ht c
    refine G.sub [] rfl ?_
    exact w_X11_isStep_J15 C hR  h
  · have h := hf c
    refine g_iload_n (q := 0) C dX11_isStep_5 rfl rfl ?_
    refine g_bipush (v := 8) C dX11_isStep_6 (by decide +kernel) ?_
    obtain ⟨g3, h⟩ := h
    obtain ⟨ht, hf⟩ := h
    refine g_icmp_gt (tgt := 15) C dX11_isStep_8 (by decide) g3 (by decide) (fun c => ?_) (fun c => ?_)
    · have h := ht c
      refine G.sub [] rfl ?_
      exact w_X11_isStep_J15 C hR  h
    · have h := hf c
      refine g_iconst C dX11_isStep_11 rfl ?_
      refine g_goto (tgt := 16) C dX11_isStep_12 (by decide) ?_
      refine G.sub [] rfl ?_
      exact w_X11_isStep_J16 C hR  h
set_option maxRecDepth 20000 in
theorem w_X0_takeRows_J67 {Y : YT} {X : CX} (C : Cx Y X cX0_takeRows 5 RX0 2) {Q : Int → Mem → Prop} (hR : Rt Y X (some .boolean) (PQi Y Q))   {M : Mem}  (h : m_X0_takeRows_J67  Q  M) : G Y X 5 67 [] ([]) M := by
  unfold m_X0_takeRows_J67 at h
  refine g_iconst C dX0_takeRows_67 rfl ?_
  exact g_retz C hR dX0_takeRows_68 (by decide) h
set_option maxRecDepth 20000 in
theorem w_X0_takeRows_L35 {Y : YT} {X : CX} (C : Cx Y X cX0_takeRows 5 RX0 2) {Q : Int → Mem → Prop} (hR : Rt Y X (some .boolean) (PQi Y Q)) {v2 : Int} {v3 : Int}  (hk_v2 : kd v2 = 8) (hk_v3 : kd v3 = 20): ∀ (f : Nat) (v4 : Int) (M : Mem), m_X0_takeRows_L35  Q v2 v3 f v4 M → G Y X 5 35 [(0, vR Y 187), (1, vR Y 1), (2, vR Y v2), (3, vR Y v3), (4, vI v4)] ([]) M := by
  intro f
  induction f with
  | zero =>
    intro v4 M h
    exact (show False from h).elim
  | succ f ih =>
    intro v4 M h
    unfold m_X0_takeRows_L35 at h
    refine g_iload (q := 4) C dX0_takeRows_35 rfl ?_
    refine g_aload_n (q := 1) C dX0_takeRows_37 rfl rfl ?_
    refine g_getI C fX0_28 (by decide) dX0_takeRows_38 kd_1 ?_
    obtain ⟨g1, h⟩ := h
    obtain ⟨g2, h⟩ := h
    obtain ⟨ht, hf⟩ := h
    refine g_icmp_ge (tgt := 75) C dX0_takeRows_41 (by decide) g1 g2 (fun c => ?_) (fun c => ?_)
    · have h := ht c
      refine g_aload_n (q := 3) C dX0_takeRows_75 rfl rfl ?_
      refine g_iconst C dX0_takeRows_76 rfl ?_
      refine g_aload_n (q := 0) C dX0_takeRows_77 rfl rfl ?_
      refine g_getS (v := 188) C fX0_11 dX0_takeRows_78 kd_187 rfl ?_
      refine g_iconst C dX0_takeRows_81 rfl ?_
      refine g_aload_n (q := 1) C dX0_takeRows_82 rfl rfl ?_
      refine g_getI C fX0_28 (by decide) dX0_takeRows_83 kd_1 ?_
      obtain ⟨g3, h⟩ := h
      obtain ⟨g4, h⟩ := h
      obtain ⟨g5, h⟩ := h
      obtain ⟨M6, e_M6⟩ : ∃ z : Mem, z = cpy M v3 0 188 0 (M 1 1) := ⟨_, rfl⟩
      have h := h M6 e_M6
      refine g_copy C acX0_41 ac_n ac_s ac_i dX0_takeRows_86 hk_v3 kd_188 g3 rfl ln_188 g4 g5 e_M6 (Nat.le_of_ble_eq_true rfl) (by decide) ?_
      refine g_aload_n (q := 0) C dX0_takeRows_89 rfl rfl ?_
      refine g_aload_n (q := 1) C dX0_takeRows_90 rfl rfl ?_
      refine g_getI C fX0_28 (by decide) dX0_takeRows_91 kd_1 ?_
      refine g_iconst C dX0_takeRows_94 rfl ?_
      obtain ⟨g7, h⟩ := h
      refine g_idiv C dX0_takeRows_95 g7 (by decide) (by decide) ?_
      obtain ⟨M8, e_M8⟩ : ∃ z : Mem, z = up M6 187 1 ((M6 1 1).tdiv 3) := ⟨_, rfl⟩
      have h := h M8 e_M8
      refine g_putI C fX0_47 pX0_47 dX0_takeRows_96 kd_187 e_M8 ?_
      refine g_iconst C dX0_takeRows_99 rfl ?_
      exact g_retz C hR dX0_takeRows_100 (by decide) h
    · have h := hf c
      refine g_aload_n (q := 3) C dX0_takeRows_44 rfl rfl ?_
      refine g_iload (q := 4) C dX0_takeRows_45 rfl ?_
      obtain ⟨g9, h⟩ := h
      refine g_iald C dX0_takeRows_47 hk_v3 rfl g9 ?_
      refine g_cN C (by decide) is_i is_c clsX11_isStep (by decide) dX0_takeRows_48 (Nat.le_of_ble_eq_true rfl) (by decide) (t_X11_isStep (Cx.ok C) h) (fun r11 M10 h => ?_)
      obtain ⟨g12, h⟩ := h
      obtain ⟨ht, hf⟩ := h
      refine g_if_eq (tgt := 67) C dX0_takeRows_51 (by decide) g12 (fun c => ?_) (fun c => ?_)
      · have h := ht c
        refine G.sub [] rfl ?_
        exact w_X0_takeRows_J67 C hR  h
      · have h := hf c
        refine g_aload_n (q := 3) C dX0_takeRows_54 rfl rfl ?_
        refine g_iload (q := 4) C dX0_takeRows_55 rfl ?_
        refine g_iconst C dX0_takeRows_57 rfl ?_
        refine g_iadd C dX0_takeRows_58 ?_
        obtain ⟨g13, h⟩ := h
        refine g_iald C dX0_takeRows_59 hk_v3 rfl g13 ?_
        refine g_aload_n (q := 2) C dX0_takeRows_60 rfl rfl ?_
        refine g_getI C fX0_36 (by decide) dX0_takeRows_61 hk_v2 ?_
        obtain ⟨g14, h⟩ := h
        obtain ⟨g15, h⟩ := h
        obtain ⟨ht, hf⟩ := h
        refine g_icmp_lt (tgt := 69) C dX0_takeRows_64 (by decide) g14 g15 (fun c => ?_) (fun c => ?_)
        · have h := ht c
          refine g_iinc (q := 4) (v := v4 + 3) (lv' := [(4, vI (v4 + 3)), (0, vR Y 187), (1, vR Y 1), (2, vR Y v2), (3, vR Y v3)]) C dX0_takeRows_69 rfl rfl (by decide) rfl ?_
          refine g_goto (tgt := 35) C dX0_takeRows_72 (by decide) ?_
          refine G.sub [1, 2, 3, 4, 0] rfl ?_
          exact ih _ _ h
        · have h := hf c
          refine G.sub [] rfl ?_
          exact w_X0_takeRows_J67 C hR  h
set_option maxRecDepth 20000 in
theorem w_X0_takeRows_J30 {Y : YT} {X : CX} (C : Cx Y X cX0_takeRows 5 RX0 2) {Q : Int → Mem → Prop} (hR : Rt Y X (some .boolean) (PQi Y Q))   {M : Mem}  (h : m_X0_takeRows_J30  Q  M) : G Y X 5 30 [] ([]) M := by
  unfold m_X0_takeRows_J30 at h
  refine g_iconst C dX0_takeRows_30 rfl ?_
  exact g_retz C hR dX0_takeRows_31 (by decide) h
set_option maxRecDepth 20000 in
theorem t_X0_takeRows {l : Launch} {Y : YT} (hY : YOK Y) {a1 : Int} {M : Mem} {Q : Int → Mem → Prop} (h : m_X0_takeRows a1 M Q) : Ctr l Y yX0_takeRows cX0_takeRows 5 (some .boolean) 2 [vR Y 187, vR Y 1, vR Y a1] M (PQi Y Q) := by
  unfold m_X0_takeRows at h
  obtain ⟨hk_a1, h⟩ := h
  refine ctr_ofF hY (by decide +kernel) (Nat.le_of_ble_eq_true rfl) [(0, vR Y 187), (1, vR Y 1), (2, vR Y a1)] rfl (fun X hX C hR => ?_)
  refine g_aload_n (q := 1) C dX0_takeRows_0 rfl rfl ?_
  refine g_getS (v := 2) C fX0_23 dX0_takeRows_1 kd_1 rfl ?_
  refine g_astore_n (lv' := [(3, vR Y 2), (0, vR Y 187), (1, vR Y 1), (2, vR Y a1)]) C dX0_takeRows_4 rfl (by decide) rfl ?_
  refine g_aload_n (q := 2) C dX0_takeRows_5 rfl rfl ?_
  refine g_getI C fX0_28 (by decide) dX0_takeRows_6 kd_1 ?_
  obtain ⟨g16, h⟩ := h
  obtain ⟨ht, hf⟩ := h
  refine g_if_eq (tgt := 30) C dX0_takeRows_9 (by decide) g16 (fun c => ?_) (fun c => ?_)
  · have h := ht c
    refine G.sub [] rfl ?_
    exact w_X0_takeRows_J30 C hR  h
  · have h := hf c
    refine g_aload_n (q := 2) C dX0_takeRows_12 rfl rfl ?_
    refine g_getI C fX0_28 (by decide) dX0_takeRows_13 kd_1 ?_
    refine g_iconst C dX0_takeRows_16 rfl ?_
    obtain ⟨g17, h⟩ := h
    refine g_irem C dX0_takeRows_17 g17 (by decide) (by decide) ?_
    obtain ⟨g18, h⟩ := h
    obtain ⟨ht, hf⟩ := h
    refine g_if_ne (tgt := 30) C dX0_takeRows_18 (by decide) g18 (fun c => ?_) (fun c => ?_)
    · have h := hf c
      refine G.sub [] rfl ?_
      exact w_X0_takeRows_J30 C hR  h
    · have h := ht c
      refine g_aload_n (q := 2) C dX0_takeRows_21 rfl rfl ?_
      refine g_getI C fX0_28 (by decide) dX0_takeRows_22 kd_1 ?_
      refine g_bipush (v := 48) C dX0_takeRows_25 (by decide +kernel) ?_
      obtain ⟨g19, h⟩ := h
      obtain ⟨ht, hf⟩ := h
      refine g_icmp_le (tgt := 32) C dX0_takeRows_27 (by decide) g19 (by decide) (fun c => ?_) (fun c => ?_)
      · have h := ht c
        refine g_iconst C dX0_takeRows_32 rfl ?_
        refine g_istore (lv' := [(4, vI 0), (3, vR Y 2), (0, vR Y 187), (1, vR Y 1), (2, vR Y a1)]) C dX0_takeRows_33 (by decide) rfl ?_
        obtain ⟨f0, h⟩ := h
        refine G.sub [2, 3, 4, 1, 0] rfl ?_
        exact w_X0_takeRows_L35 C hR hk_a1 kd_2 f0 _ _ h
      · have h := hf c
        refine G.sub [] rfl ?_
        exact w_X0_takeRows_J30 C hR  h
set_option maxRecDepth 20000 in
theorem t_X0_clear {l : Launch} {Y : YT} (hY : YOK Y) {M : Mem} {Q : Mem → Prop} (h : m_X0_clear  M Q) : Ctr l Y yX0_clear cX0_clear 1 none 1 [vR Y 187] M (PQv Y Q) := by
  unfold m_X0_clear at h
  refine ctr_ofF hY (by decide +kernel) (Nat.le_of_ble_eq_true rfl) [(0, vR Y 187)] rfl (fun X hX C hR => ?_)
  refine g_aload_n (q := 0) C dX0_clear_0 rfl rfl ?_
  refine g_iconst C dX0_clear_1 rfl ?_
  obtain ⟨M1, e_M1⟩ : ∃ z : Mem, z = up M 187 4 0 := ⟨_, rfl⟩
  have h := h M1 e_M1
  refine g_putI C fX0_50 pX0_50 dX0_clear_2 kd_187 e_M1 ?_
  refine g_aload_n (q := 0) C dX0_clear_5 rfl rfl ?_
  refine g_iconst C dX0_clear_6 rfl ?_
  obtain ⟨M2, e_M2⟩ : ∃ z : Mem, z = up M1 187 5 (-1) := ⟨_, rfl⟩
  have h := h M2 e_M2
  refine g_putI C fX0_53 pX0_53 dX0_clear_7 kd_187 e_M2 ?_
  refine g_aload_n (q := 0) C dX0_clear_10 rfl rfl ?_
  refine g_iconst C dX0_clear_11 rfl ?_
  obtain ⟨M3, e_M3⟩ : ∃ z : Mem, z = up M2 187 6 (-1) := ⟨_, rfl⟩
  have h := h M3 e_M3
  refine g_putI C fX0_56 pX0_56 dX0_clear_12 kd_187 e_M3 ?_
  refine g_aload_n (q := 0) C dX0_clear_15 rfl rfl ?_
  refine g_iconst C dX0_clear_16 rfl ?_
  obtain ⟨M4, e_M4⟩ : ∃ z : Mem, z = up M3 187 7 (-1) := ⟨_, rfl⟩
  have h := h M4 e_M4
  refine g_putI C fX0_59 pX0_59 dX0_clear_17 kd_187 e_M4 ?_
  exact g_retv C hR dX0_clear_20 h
set_option maxRecDepth 20000 in
theorem t_X10_peopleIn {l : Launch} {Y : YT} (hY : YOK Y) {o : Int} {a0 : Int} {a1 : Int} {M : Mem} {Q : Int → Mem → Prop} (h : m_X10_peopleIn o a0 a1 M Q) : Ctr l Y yX10_peopleIn cX10_peopleIn 3 (some .int) 1 [vR Y o, vI a0, vI a1] M (PQi Y Q) := by
  unfold m_X10_peopleIn at h
  obtain ⟨hk_o, h⟩ := h
  refine ctr_ofF hY (by decide +kernel) (Nat.le_of_ble_eq_true rfl) [(0, vR Y o), (1, vI a0), (2, vI a1)] rfl (fun X hX C hR => ?_)
  refine g_aload_n (q := 0) C dX10_peopleIn_0 rfl rfl ?_
  refine g_getS (v := o + 2) C fX10_15 dX10_peopleIn_1 hk_o rfl ?_
  refine g_bipush (v := 7) C dX10_peopleIn_4 (by decide +kernel) ?_
  refine g_iload_n (q := 2) C dX10_peopleIn_6 rfl rfl ?_
  refine g_imul C dX10_peopleIn_7 ?_
  refine g_iload_n (q := 1) C dX10_peopleIn_8 rfl rfl ?_
  refine g_iadd C dX10_peopleIn_9 ?_
  obtain ⟨g1, h⟩ := h
  refine g_iald C dX10_peopleIn_10 (sub_10_1 hk_o).1 (sub_10_1 hk_o).2 g1 ?_
  exact g_reti C hR dX10_peopleIn_11 h
set_option maxRecDepth 20000 in
theorem t_X10_countIn {l : Launch} {Y : YT} (hY : YOK Y) {o : Int} {a0 : Int} {a1 : Int} {M : Mem} {Q : Int → Mem → Prop} (h : m_X10_countIn o a0 a1 M Q) : Ctr l Y yX10_countIn cX10_countIn 3 (some .int) 2 [vR Y o, vI a0, vI a1] M (PQi Y Q) := by
  unfold m_X10_countIn at h
  obtain ⟨hk_o, h⟩ := h
  refine ctr_ofF hY (by decide +kernel) (Nat.le_of_ble_eq_true rfl) [(0, vR Y o), (1, vI a0), (2, vI a1)] rfl (fun X hX C hR => ?_)
  refine g_aload_n (q := 0) C dX10_countIn_0 rfl rfl ?_
  refine g_iload_n (q := 1) C dX10_countIn_1 rfl rfl ?_
  refine g_iload_n (q := 2) C dX10_countIn_2 rfl rfl ?_
  refine g_cVi (As := [vI a0, vI a1]) C clX10_132 clvX10_peopleIn dX10_countIn_3 hk_o rfl (Nat.le_of_ble_eq_true rfl) rfl (by decide) (t_X10_peopleIn (Cx.ok C) h) (fun r2 M1 h => ?_)
  refine g_cSi (As := [vI r2]) C clX10_135 clsJ6_bitCount_0f7a4 dX10_countIn_6 rfl (Nat.le_of_ble_eq_true rfl) rfl (by decide) (t_J6_bitCount_0f7a4 (Cx.ok C) h) (fun r4 M3 h => ?_)
  exact g_reti C hR dX10_countIn_9 h
set_option maxRecDepth 20000 in
theorem w_X0_isAsSeen_L2 {Y : YT} {X : CX} (C : Cx Y X cX0_isAsSeen 3 RX0 3) {Q : Int → Mem → Prop} (hR : Rt Y X (some .boolean) (PQi Y Q)) {v1 : Int}  (hk_v1 : kd v1 = 10): ∀ (f : Nat) (v2 : Int) (M : Mem), m_X0_isAsSeen_L2  Q v1 f v2 M → G Y X 3 2 [(0, vR Y 187), (1, vR Y v1), (2, vI v2)] ([]) M := by
  intro f
  induction f with
  | zero =>
    intro v2 M h
    exact (show False from h).elim
  | succ f ih =>
    intro v2 M h
    unfold m_X0_isAsSeen_L2 at h
    refine g_iload_n (q := 2) C dX0_isAsSeen_2 rfl rfl ?_
    refine g_iconst C dX0_isAsSeen_3 rfl ?_
    refine g_aload_n (q := 0) C dX0_isAsSeen_4 rfl rfl ?_
    refine g_getI C fX0_47 (by decide) dX0_isAsSeen_5 kd_187 ?_
    refine g_imul C dX0_isAsSeen_8 ?_
    obtain ⟨g1, h⟩ := h
    obtain ⟨g2, h⟩ := h
    obtain ⟨ht, hf⟩ := h
    refine g_icmp_ge (tgt := 49) C dX0_isAsSeen_9 (by decide) g1 g2 (fun c => ?_) (fun c => ?_)
    · have h := ht c
      refine g_iconst C dX0_isAsSeen_49 rfl ?_
      exact g_retz C hR dX0_isAsSeen_50 (by decide) h
    · have h := hf c
      refine g_aload_n (q := 1) C dX0_isAsSeen_12 rfl rfl ?_
      refine g_aload_n (q := 0) C dX0_isAsSeen_13 rfl rfl ?_
      refine g_getS (v := 188) C fX0_11 dX0_isAsSeen_14 kd_187 rfl ?_
      refine g_iload_n (q := 2) C dX0_isAsSeen_17 rfl rfl ?_
      refine g_iconst C dX0_isAsSeen_18 rfl ?_
      refine g_iadd C dX0_isAsSeen_19 ?_
      obtain ⟨g3, h⟩ := h
      refine g_iald C dX0_isAsSeen_20 kd_188 ln_188 g3 ?_
      refine g_aload_n (q := 0) C dX0_isAsSeen_21 rfl rfl ?_
      refine g_getS (v := 188) C fX0_11 dX0_isAsSeen_22 kd_187 rfl ?_
      refine g_iload_n (q := 2) C dX0_isAsSeen_25 rfl rfl ?_
      obtain ⟨g4, h⟩ := h
      refine g_iald C dX0_isAsSeen_26 kd_188 ln_188 g4 ?_
      refine g_cVi (As := [vI (M 188 (v2 + 1)), vI (M 188 v2)]) C clX0_66 clvX10_countIn dX0_isAsSeen_27 hk_v1 rfl (Nat.le_of_ble_eq_true rfl) rfl (by decide) (t_X10_countIn (Cx.ok C) h) (fun r6 M5 h => ?_)
      refine g_aload_n (q := 0) C dX0_isAsSeen_30 rfl rfl ?_
      refine g_getS (v := 188) C fX0_11 dX0_isAsSeen_31 kd_187 rfl ?_
      refine g_iload_n (q := 2) C dX0_isAsSeen_34 rfl rfl ?_
      refine g_iconst C dX0_isAsSeen_35 rfl ?_
      refine g_iadd C dX0_isAsSeen_36 ?_
      obtain ⟨g7, h⟩ := h
      refine g_iald C dX0_isAsSeen_37 kd_188 ln_188 g7 ?_
      obtain ⟨g8, h⟩ := h
      obtain ⟨g9, h⟩ := h
      obtain ⟨ht, hf⟩ := h
      refine g_icmp_eq (tgt := 43) C dX0_isAsSeen_38 (by decide) g8 g9 (fun c => ?_) (fun c => ?_)
      · have h := ht c
        refine g_iinc (q := 2) (v := v2 + 3) (lv' := [(2, vI (v2 + 3)), (0, vR Y 187), (1, vR Y v1)]) C dX0_isAsSeen_43 rfl rfl (by decide) rfl ?_
        refine g_goto (tgt := 2) C dX0_isAsSeen_46 (by decide) ?_
        refine G.sub [1, 2, 0] rfl ?_
        exact ih _ _ h
      · have h := hf c
        refine g_iconst C dX0_isAsSeen_41 rfl ?_
        exact g_retz C hR dX0_isAsSeen_42 (by decide) h
set_option maxRecDepth 20000 in
theorem t_X0_isAsSeen {l : Launch} {Y : YT} (hY : YOK Y) {a0 : Int} {M : Mem} {Q : Int → Mem → Prop} (h : m_X0_isAsSeen a0 M Q) : Ctr l Y yX0_isAsSeen cX0_isAsSeen 3 (some .boolean) 3 [vR Y 187, vR Y a0] M (PQi Y Q) := by
  unfold m_X0_isAsSeen at h
  obtain ⟨hk_a0, h⟩ := h
  refine ctr_ofF hY (by decide +kernel) (Nat.le_of_ble_eq_true rfl) [(0, vR Y 187), (1, vR Y a0)] rfl (fun X hX C hR => ?_)
  refine g_iconst C dX0_isAsSeen_0 rfl ?_
  refine g_istore_n (lv' := [(2, vI 0), (0, vR Y 187), (1, vR Y a0)]) C dX0_isAsSeen_1 rfl (by decide) rfl ?_
  obtain ⟨f0, h⟩ := h
  refine G.sub [1, 2, 0] rfl ?_
  exact w_X0_isAsSeen_L2 C hR hk_a0 f0 _ _ h
set_option maxRecDepth 20000 in
theorem w_X0_weigh_L32 {Y : YT} {X : CX} (C : Cx Y X cX0_weigh 5 RX0 4) {Q : Mem → Prop} (hR : Rt Y X none (PQv Y Q)) {v1 : Int} {v2 : Int} {v3 : Int} {k23 : Int → Mem → Prop} (hk23 : ∀ (v3 : Int)  (M : Mem), k23 v3 M → G Y X 5 23 [(0, vR Y 187), (1, vI v1), (2, vR Y v2), (3, vI v3)] ([]) M) (hk_v2 : kd v2 = 10): ∀ (f : Nat) (v4 : Int) (M : Mem), m_X0_weigh_L32 k23 Q v1 v2 v3 f v4 M → G Y X 5 32 [(0, vR Y 187), (1, vI v1), (2, vR Y v2), (3, vI v3), (4, vI v4)] ([]) M := by
  intro f
  induction f with
  | zero =>
    intro v4 M h
    exact (show False from h).elim
  | succ f ih =>
    intro v4 M h
    unfold m_X0_weigh_L32 at h
    refine g_iload (q := 4) C dX0_weigh_32 rfl ?_
    refine g_bipush (v := 7) C dX0_weigh_34 (by decide +kernel) ?_
    obtain ⟨g1, h⟩ := h
    obtain ⟨ht, hf⟩ := h
    refine g_icmp_ge (tgt := 68) C dX0_weigh_36 (by decide) g1 (by decide) (fun c => ?_) (fun c => ?_)
    · have h := ht c
      refine g_iinc (q := 3) (v := v3 + 1) (lv' := [(3, vI (v3 + 1)), (0, vR Y 187), (1, vI v1), (2, vR Y v2), (4, vI v4)]) C dX0_weigh_68 rfl rfl (by decide) rfl ?_
      refine g_goto (tgt := 23) C dX0_weigh_71 (by decide) ?_
      refine G.sub [1, 2, 3, 0] rfl ?_
      exact hk23 _ _ h
    · have h := hf c
      refine g_aload_n (q := 0) C dX0_weigh_39 rfl rfl ?_
      refine g_getS (v := 189) C fX0_17 dX0_weigh_40 kd_187 rfl ?_
      refine g_iload_n (q := 1) C dX0_weigh_43 rfl rfl ?_
      obtain ⟨g2, h⟩ := h
      refine g_gald C dX0_weigh_44 kd_189 ln_189 g2 ?_
      refine g_bipush (v := 7) C dX0_weigh_45 (by decide +kernel) ?_
      refine g_iload_n (q := 3) C dX0_weigh_47 rfl rfl ?_
      refine g_iconst C dX0_weigh_48 rfl ?_
      refine g_isub C dX0_weigh_49 ?_
      refine g_imul C dX0_weigh_50 ?_
      refine g_iload (q := 4) C dX0_weigh_51 rfl ?_
      refine g_iadd C dX0_weigh_53 ?_
      refine g_aload_n (q := 2) C dX0_weigh_54 rfl rfl ?_
      refine g_iload (q := 4) C dX0_weigh_55 rfl ?_
      refine g_iload_n (q := 3) C dX0_weigh_57 rfl rfl ?_
      refine g_cVi (As := [vI v4, vI v3]) C clX0_66 clvX10_countIn dX0_weigh_58 hk_v2 rfl (Nat.le_of_ble_eq_true rfl) rfl (by decide) (t_X10_countIn (Cx.ok C) h) (fun r4 M3 h => ?_)
      obtain ⟨g5, h⟩ := h
      obtain ⟨M6, e_M6⟩ : ∃ z : Mem, z = up M3 (189 + 1 + v1) ((7 * (v3 - 1)) + v4) r4 := ⟨_, rfl⟩
      have h := h M6 e_M6
      refine g_iast C dX0_weigh_61 (gr_in g2).1 (gr_in g2).2 g5 e_M6 ?_
      refine g_iinc (q := 4) (v := v4 + 1) (lv' := [(4, vI (v4 + 1)), (0, vR Y 187), (1, vI v1), (2, vR Y v2), (3, vI v3)]) C dX0_weigh_62 rfl rfl (by decide) rfl ?_
      refine g_goto (tgt := 32) C dX0_weigh_65 (by decide) ?_
      refine G.sub [1, 2, 3, 4, 0] rfl ?_
      exact ih _ _ h
set_option maxRecDepth 20000 in
theorem w_X0_weigh_L23 {Y : YT} {X : CX} (C : Cx Y X cX0_weigh 5 RX0 4) {Q : Mem → Prop} (hR : Rt Y X none (PQv Y Q)) {v1 : Int} {v2 : Int}  (hk_v2 : kd v2 = 10): ∀ (f : Nat) (v3 : Int) (M : Mem), m_X0_weigh_L23  Q v1 v2 f v3 M → G Y X 5 23 [(0, vR Y 187), (1, vI v1), (2, vR Y v2), (3, vI v3)] ([]) M := by
  intro f
  induction f with
  | zero =>
    intro v3 M h
    exact (show False from h).elim
  | succ f ih =>
    intro v3 M h
    unfold m_X0_weigh_L23 at h
    refine g_iload_n (q := 3) C dX0_weigh_23 rfl rfl ?_
    refine g_bipush (v := 8) C dX0_weigh_24 (by decide +kernel) ?_
    obtain ⟨g7, h⟩ := h
    obtain ⟨ht, hf⟩ := h
    refine g_icmp_gt (tgt := 74) C dX0_weigh_26 (by decide) g7 (by decide) (fun c => ?_) (fun c => ?_)
    · have h := ht c
      exact g_retv C hR dX0_weigh_74 h
    · have h := hf c
      refine g_iconst C dX0_weigh_29 rfl ?_
      refine g_istore (lv' := [(4, vI 0), (0, vR Y 187), (1, vI v1), (2, vR Y v2), (3, vI v3)]) C dX0_weigh_30 (by decide) rfl ?_
      obtain ⟨f0, h⟩ := h
      refine G.sub [1, 2, 3, 4, 0] rfl ?_
      exact w_X0_weigh_L32 C hR (ih) hk_v2 f0 _ _ h
set_option maxRecDepth 20000 in
theorem t_X0_weigh {l : Launch} {Y : YT} (hY : YOK Y) {a0 : Int} {a1 : Int} {M : Mem} {Q : Mem → Prop} (h : m_X0_weigh a0 a1 M Q) : Ctr l Y yX0_weigh cX0_weigh 5 none 4 [vR Y 187, vI a0, vR Y a1] M (PQv Y Q) := by
  unfold m_X0_weigh at h
  obtain ⟨hk_a1, h⟩ := h
  refine ctr_ofF hY (by decide +kernel) (Nat.le_of_ble_eq_true rfl) [(0, vR Y 187), (1, vI a0), (2, vR Y a1)] rfl (fun X hX C hR => ?_)
  refine g_aload_n (q := 0) C dX0_weigh_0 rfl rfl ?_
  refine g_aload_n (q := 2) C dX0_weigh_1 rfl rfl ?_
  refine g_cVi (As := [vR Y a1]) C clX0_62 clvX0_isAsSeen dX0_weigh_2 kd_187 rfl (Nat.le_of_ble_eq_true rfl) rfl (by decide) (t_X0_isAsSeen (Cx.ok C) h) (fun r9 M8 h => ?_)
  obtain ⟨g10, h⟩ := h
  obtain ⟨ht, hf⟩ := h
  refine g_if_ne (tgt := 9) C dX0_weigh_5 (by decide) g10 (fun c => ?_) (fun c => ?_)
  · have h := hf c
    refine g_aload_n (q := 0) C dX0_weigh_9 rfl rfl ?_
    refine g_dup C dX0_weigh_10 rfl ?_
    refine g_getI C fX0_50 (by decide) dX0_weigh_11 kd_187 ?_
    refine g_iconst C dX0_weigh_14 rfl ?_
    refine g_iload_n (q := 1) C dX0_weigh_15 rfl rfl ?_
    refine g_ishl C dX0_weigh_16 ?_
    refine g_ior C dX0_weigh_17 ?_
    obtain ⟨M11, e_M11⟩ : ∃ z : Mem, z = up M8 187 4 (zor (M8 187 4) (zshl 1 a0)) := ⟨_, rfl⟩
    have h := h M11 e_M11
    refine g_putI C fX0_50 pX0_50 dX0_weigh_18 kd_187 e_M11 ?_
    refine g_iconst C dX0_weigh_21 rfl ?_
    refine g_istore_n (lv' := [(3, vI 1), (0, vR Y 187), (1, vI a0), (2, vR Y a1)]) C dX0_weigh_22 rfl (by decide) rfl ?_
    obtain ⟨f0, h⟩ := h
    refine G.sub [1, 2, 3, 0] rfl ?_
    exact w_X0_weigh_L23 C hR hk_a1 f0 _ _ h
  · have h := ht c
    exact g_retv C hR dX0_weigh_8 h
set_option maxRecDepth 20000 in
theorem w_X0_mostAlike_J63 {Y : YT} {X : CX} (C : Cx Y X cX0_mostAlike 5 RX0 2) {Q : Int → Mem → Prop} (hR : Rt Y X (some .int) (PQi Y Q)) {v1 : Int} {v2 : Int} {v3 : Int} {k12 : Int → Int → Mem → Prop} (hk12 : ∀ (v2 : Int) (v3 : Int)  (M : Mem), k12 v2 v3 M → G Y X 5 12 [(0, vR Y 187), (1, vI v1), (2, vI v2), (3, vI v3)] ([]) M) {M : Mem}  (h : m_X0_mostAlike_J63 k12 Q v1 v2 v3 M) : G Y X 5 63 [(0, vR Y 187), (1, vI v1), (2, vI v2), (3, vI v3)] ([]) M := by
  unfold m_X0_mostAlike_J63 at h
  refine g_iinc (q := 3) (v := v3 + 1) (lv' := [(3, vI (v3 + 1)), (0, vR Y 187), (1, vI v1), (2, vI v2)]) C dX0_mostAlike_63 rfl rfl (by decide) rfl ?_
  refine g_goto (tgt := 12) C dX0_mostAlike_66 (by decide) ?_
  refine G.sub [1, 2, 3, 0] rfl ?_
  exact hk12 _ _ _ h
set_option maxRecDepth 20000 in
theorem w_X0_mostAlike_L12 {Y : YT} {X : CX} (C : Cx Y X cX0_mostAlike 5 RX0 2) {Q : Int → Mem → Prop} (hR : Rt Y X (some .int) (PQi Y Q)) {v1 : Int}  : ∀ (f : Nat) (v2 : Int) (v3 : Int) (M : Mem), m_X0_mostAlike_L12  Q v1 f v2 v3 M → G Y X 5 12 [(0, vR Y 187), (1, vI v1), (2, vI v2), (3, vI v3)] ([]) M := by
  intro f
  induction f with
  | zero =>
    intro v2 v3 M h
    exact (show False from h).elim
  | succ f ih =>
    intro v2 v3 M h
    unfold m_X0_mostAlike_L12 at h
    refine g_iload_n (q := 3) C dX0_mostAlike_12 rfl rfl ?_
    refine g_bipush (v := 7) C dX0_mostAlike_13 (by decide +kernel) ?_
    obtain ⟨g1, h⟩ := h
    obtain ⟨ht, hf⟩ := h
    refine g_icmp_ge (tgt := 69) C dX0_mostAlike_15 (by decide) g1 (by decide) (fun c => ?_) (fun c => ?_)
    · have h := ht c
      refine g_iload_n (q := 2) C dX0_mostAlike_69 rfl rfl ?_
      exact g_reti C hR dX0_mostAlike_70 h
    · have h := hf c
      refine g_aload_n (q := 0) C dX0_mostAlike_18 rfl rfl ?_
      refine g_getI C fX0_50 (by decide) dX0_mostAlike_19 kd_187 ?_
      refine g_iload_n (q := 3) C dX0_mostAlike_22 rfl rfl ?_
      refine g_ishr C dX0_mostAlike_23 ?_
      refine g_iconst C dX0_mostAlike_24 rfl ?_
      refine g_iand C dX0_mostAlike_25 ?_
      refine g_iconst C dX0_mostAlike_26 rfl ?_
      obtain ⟨g2, h⟩ := h
      obtain ⟨ht, hf⟩ := h
      refine g_icmp_ne (tgt := 63) C dX0_mostAlike_27 (by decide) g2 (by decide) (fun c => ?_) (fun c => ?_)
      · have h := hf c
        refine G.sub [0, 1, 2, 3] rfl ?_
        exact w_X0_mostAlike_J63 C hR (ih)  h
      · have h := ht c
        refine g_aload_n (q := 0) C dX0_mostAlike_30 rfl rfl ?_
        refine g_getS (v := 189) C fX0_17 dX0_mostAlike_31 kd_187 rfl ?_
        refine g_iload_n (q := 3) C dX0_mostAlike_34 rfl rfl ?_
        obtain ⟨g3, h⟩ := h
        refine g_gald C dX0_mostAlike_35 kd_189 ln_189 g3 ?_
        refine g_iload_n (q := 1) C dX0_mostAlike_36 rfl rfl ?_
        obtain ⟨g4, h⟩ := h
        refine g_iald C dX0_mostAlike_37 (gr_in g3).1 (gr_in g3).2 g4 ?_
        refine g_istore (lv' := [(4, vI (M (189 + 1 + v3) v1)), (0, vR Y 187), (1, vI v1), (2, vI v2), (3, vI v3)]) C dX0_mostAlike_38 (by decide) rfl ?_
        refine g_aload_n (q := 1) C dX0_mostAlike_40 rfl rfl ?_
        refine g_getS (v := 197) C fX0_20 dX0_mostAlike_41 kd_187 rfl ?_
        refine g_iload (q := 0) C dX0_mostAlike_44 rfl ?_
        refine g_dup2 C dX0_mostAlike_46 rfl rfl ?_
        obtain ⟨g5, h⟩ := h
        refine g_iald C dX0_mostAlike_47 kd_197 ln_197 g5 ?_
        refine g_iconst C dX0_mostAlike_48 rfl ?_
        refine g_iadd C dX0_mostAlike_49 ?_
        obtain ⟨g6, h⟩ := h
        obtain ⟨M7, e_M7⟩ : ∃ z : Mem, z = up M 197 (M (189 + 1 + v3) v1) ((M 197 (M (189 + 1 + v3) v1)) + 1) := ⟨_, rfl⟩
        have h := h M7 e_M7
        refine g_iast C dX0_mostAlike_50 kd_197 ln_197 g6 e_M7 ?_
        refine g_iload_n (q := 3) C dX0_mostAlike_51 rfl rfl ?_
        refine g_aload_n (q := 1) C dX0_mostAlike_52 rfl rfl ?_
        refine g_getS (v := 197) C fX0_20 dX0_mostAlike_53 kd_187 rfl ?_
        refine g_iload (q := 0) C dX0_mostAlike_56 rfl ?_
        obtain ⟨g8, h⟩ := h
        refine g_iald C dX0_mostAlike_58 kd_197 ln_197 g8 ?_
        refine g_cSi (As := [vI v2, vI (M7 197 (M (189 + 1 + v3) v1))]) C clX0_82 clsJ9_max_7cf53 dX0_mostAlike_59 rfl (Nat.le_of_ble_eq_true rfl) rfl (by decide) (t_J9_max_7cf53 (Cx.ok C) h) (fun r10 M9 h => ?_)
        refine g_istore_n (lv' := [(2, vI r10), (4, vI (M (189 + 1 + v3) v1)), (0, vR Y 187), (1, vI v1), (3, vI v3)]) C dX0_mostAlike_62 rfl (by decide) rfl ?_
        refine G.sub [2, 3, 0, 4] rfl ?_
        exact w_X0_mostAlike_J63 C hR (ih)  h
set_option maxRecDepth 20000 in
theorem t_X0_mostAlike {l : Launch} {Y : YT} (hY : YOK Y) {a0 : Int} {M : Mem} {Q : Int → Mem → Prop} (h : m_X0_mostAlike a0 M Q) : Ctr l Y yX0_mostAlike cX0_mostAlike 5 (some .int) 2 [vR Y 187, vI a0] M (PQi Y Q) := by
  unfold m_X0_mostAlike at h
  refine ctr_ofF hY (by decide +kernel) (Nat.le_of_ble_eq_true rfl) [(0, vR Y 187), (1, vI a0)] rfl (fun X hX C hR => ?_)
  refine g_aload_n (q := 0) C dX0_mostAlike_0 rfl rfl ?_
  refine g_getS (v := 197) C fX0_20 dX0_mostAlike_1 kd_187 rfl ?_
  refine g_iconst C dX0_mostAlike_4 rfl ?_
  refine g_cSv (As := [vR Y 197, vI 0]) C clX0_76 clsJ7_fill_53178 dX0_mostAlike_5 rfl (Nat.le_of_ble_eq_true rfl) rfl (by decide) (t_J7_fill_53178 (Cx.ok C) h) (fun M11 h => ?_)
  refine g_iconst C dX0_mostAlike_8 rfl ?_
  refine g_istore_n (lv' := [(2, vI 0), (0, vR Y 187), (1, vI a0)]) C dX0_mostAlike_9 rfl (by decide) rfl ?_
  refine g_iconst C dX0_mostAlike_10 rfl ?_
  refine g_istore_n (lv' := [(3, vI 0), (2, vI 0), (0, vR Y 187), (1, vI a0)]) C dX0_mostAlike_11 rfl (by decide) rfl ?_
  obtain ⟨f0, h⟩ := h
  refine G.sub [2, 3, 1, 0] rfl ?_
  exact w_X0_mostAlike_L12 C hR  f0 _ _ _ h
set_option maxRecDepth 20000 in
theorem w_X0_findTelling_J70 {Y : YT} {X : CX} (C : Cx Y X cX0_findTelling 5 RX0 3) {Q : Mem → Prop} (hR : Rt Y X none (PQv Y Q)) {v1 : Int} {v2 : Int} {v3 : Int} {k10 : Int → Mem → Prop} (hk10 : ∀ (v2 : Int)  (M : Mem), k10 v2 M → G Y X 5 10 [(0, vR Y 187), (1, vI v1), (2, vI v2)] ([]) M) {k18 : Int → Mem → Prop} (hk18 : ∀ (v3 : Int)  (M : Mem), k18 v3 M → G Y X 5 18 [(0, vR Y 187), (1, vI v1), (2, vI v2), (3, vI v3)] ([]) M) {M : Mem}  (h : m_X0_findTelling_J70 k10 k18 Q v1 v2 v3 M) : G Y X 5 70 [(0, vR Y 187), (1, vI v1), (2, vI v2), (3, vI v3)] ([]) M := by
  unfold m_X0_findTelling_J70 at h
  refine g_iinc (q := 3) (v := v3 + 1) (lv' := [(3, vI (v3 + 1)), (0, vR Y 187), (1, vI v1), (2, vI v2)]) C dX0_findTelling_70 rfl rfl (by decide) rfl ?_
  refine g_goto (tgt := 18) C dX0_findTelling_73 (by decide) ?_
  refine G.sub [1, 2, 3, 0] rfl ?_
  exact hk18 _ _ h
set_option maxRecDepth 20000 in
theorem w_X0_findTelling_J54 {Y : YT} {X : CX} (C : Cx Y X cX0_findTelling 5 RX0 3) {Q : Mem → Prop} (hR : Rt Y X none (PQv Y Q)) {v1 : Int} {v2 : Int} {v3 : Int} {v4 : Int} {k10 : Int → Mem → Prop} (hk10 : ∀ (v2 : Int)  (M : Mem), k10 v2 M → G Y X 5 10 [(0, vR Y 187), (1, vI v1), (2, vI v2)] ([]) M) {k18 : Int → Mem → Prop} (hk18 : ∀ (v3 : Int)  (M : Mem), k18 v3 M → G Y X 5 18 [(0, vR Y 187), (1, vI v1), (2, vI v2), (3, vI v3)] ([]) M) {M : Mem}  (h : m_X0_findTelling_J54 k10 k18 Q v1 v2 v3 v4 M) : G Y X 5 54 [(0, vR Y 187), (1, vI v1), (2, vI v2), (3, vI v3), (4, vI v4)] ([]) M := by
  unfold m_X0_findTelling_J54 at h
  refine g_aload_n (q := 0) C dX0_findTelling_54 rfl rfl ?_
  refine g_iload (q := 4) C dX0_findTelling_55 rfl ?_
  obtain ⟨M1, e_M1⟩ : ∃ z : Mem, z = up M 187 7 v4 := ⟨_, rfl⟩
  have h := h M1 e_M1
  refine g_putI C fX0_59 pX0_59 dX0_findTelling_57 kd_187 e_M1 ?_
  refine g_aload_n (q := 0) C dX0_findTelling_60 rfl rfl ?_
  refine g_iload_n (q := 2) C dX0_findTelling_61 rfl rfl ?_
  obtain ⟨M2, e_M2⟩ : ∃ z : Mem, z = up M1 187 5 v2 := ⟨_, rfl⟩
  have h := h M2 e_M2
  refine g_putI C fX0_53 pX0_53 dX0_findTelling_62 kd_187 e_M2 ?_
  refine g_aload_n (q := 0) C dX0_findTelling_65 rfl rfl ?_
  refine g_iload_n (q := 3) C dX0_findTelling_66 rfl rfl ?_
  obtain ⟨M3, e_M3⟩ : ∃ z : Mem, z = up M2 187 6 v3 := ⟨_, rfl⟩
  have h := h M3 e_M3
  refine g_putI C fX0_56 pX0_56 dX0_findTelling_67 kd_187 e_M3 ?_
  refine G.sub [0, 1, 2, 3] rfl ?_
  exact w_X0_findTelling_J70 C hR (hk10) (hk18)  h
set_option maxRecDepth 20000 in
theorem w_X0_findTelling_L18 {Y : YT} {X : CX} (C : Cx Y X cX0_findTelling 5 RX0 3) {Q : Mem → Prop} (hR : Rt Y X none (PQv Y Q)) {v1 : Int} {v2 : Int} {k10 : Int → Mem → Prop} (hk10 : ∀ (v2 : Int)  (M : Mem), k10 v2 M → G Y X 5 10 [(0, vR Y 187), (1, vI v1), (2, vI v2)] ([]) M) : ∀ (f : Nat) (v3 : Int) (M : Mem), m_X0_findTelling_L18 k10 Q v1 v2 f v3 M → G Y X 5 18 [(0, vR Y 187), (1, vI v1), (2, vI v2), (3, vI v3)] ([]) M := by
  intro f
  induction f with
  | zero =>
    intro v3 M h
    exact (show False from h).elim
  | succ f ih =>
    intro v3 M h
    unfold m_X0_findTelling_L18 at h
    refine g_iload_n (q := 3) C dX0_findTelling_18 rfl rfl ?_
    refine g_iload_n (q := 1) C dX0_findTelling_19 rfl rfl ?_
    obtain ⟨g4, h⟩ := h
    obtain ⟨g5, h⟩ := h
    obtain ⟨ht, hf⟩ := h
    refine g_icmp_ge (tgt := 76) C dX0_findTelling_20 (by decide) g4 g5 (fun c => ?_) (fun c => ?_)
    · have h := ht c
      refine g_iinc (q := 2) (v := v2 + 1) (lv' := [(2, vI (v2 + 1)), (0, vR Y 187), (1, vI v1), (3, vI v3)]) C dX0_findTelling_76 rfl rfl (by decide) rfl ?_
      refine g_goto (tgt := 10) C dX0_findTelling_79 (by decide) ?_
      refine G.sub [1, 2, 0] rfl ?_
      exact hk10 _ _ h
    · have h := hf c
      refine g_aload_n (q := 0) C dX0_findTelling_23 rfl rfl ?_
      refine g_bipush (v := 7) C dX0_findTelling_24 (by decide +kernel) ?_
      refine g_iload_n (q := 2) C dX0_findTelling_26 rfl rfl ?_
      refine g_iconst C dX0_findTelling_27 rfl ?_
      refine g_isub C dX0_findTelling_28 ?_
      refine g_imul C dX0_findTelling_29 ?_
      refine g_iload_n (q := 3) C dX0_findTelling_30 rfl rfl ?_
      refine g_iadd C dX0_findTelling_31 ?_
      refine g_cVi (As := [vI ((7 * (v2 - 1)) + v3)]) C clX0_72 clvX0_mostAlike dX0_findTelling_32 kd_187 rfl (Nat.le_of_ble_eq_true rfl) rfl (by decide) (t_X0_mostAlike (Cx.ok C) h) (fun r7 M6 h => ?_)
      refine g_istore (lv' := [(4, vI r7), (0, vR Y 187), (1, vI v1), (2, vI v2), (3, vI v3)]) C dX0_findTelling_35 (by decide) rfl ?_
      refine g_aload_n (q := 1) C dX0_findTelling_37 rfl rfl ?_
      refine g_getI C fX0_59 (by decide) dX0_findTelling_38 kd_187 ?_
      refine g_iconst C dX0_findTelling_41 rfl ?_
      obtain ⟨g8, h⟩ := h
      obtain ⟨ht, hf⟩ := h
      refine g_icmp_eq (tgt := 54) C dX0_findTelling_42 (by decide) g8 (by decide) (fun c => ?_) (fun c => ?_)
      · have h := ht c
        refine G.sub [1, 2, 3, 4, 0] rfl ?_
        exact w_X0_findTelling_J54 C hR (hk10) (ih)  h
      · have h := hf c
        refine g_iload (q := 0) C dX0_findTelling_45 rfl ?_
        refine g_aload_n (q := 1) C dX0_findTelling_47 rfl rfl ?_
        refine g_getI C fX0_59 (by decide) dX0_findTelling_48 kd_187 ?_
        obtain ⟨g9, h⟩ := h
        obtain ⟨g10, h⟩ := h
        obtain ⟨ht, hf⟩ := h
        refine g_icmp_ge (tgt := 70) C dX0_findTelling_51 (by decide) g9 g10 (fun c => ?_) (fun c => ?_)
        · have h := ht c
          refine G.sub [1, 2, 3, 4] rfl ?_
          exact w_X0_findTelling_J70 C hR (hk10) (ih)  h
        · have h := hf c
          refine G.sub [1, 2, 3, 4, 0] rfl ?_
          exact w_X0_findTelling_J54 C hR (hk10) (ih)  h
set_option maxRecDepth 20000 in
theorem w_X0_findTelling_L10 {Y : YT} {X : CX} (C : Cx Y X cX0_findTelling 5 RX0 3) {Q : Mem → Prop} (hR : Rt Y X none (PQv Y Q)) {v1 : Int}  : ∀ (f : Nat) (v2 : Int) (M : Mem), m_X0_findTelling_L10  Q v1 f v2 M → G Y X 5 10 [(0, vR Y 187), (1, vI v1), (2, vI v2)] ([]) M := by
  intro f
  induction f with
  | zero =>
    intro v2 M h
    exact (show False from h).elim
  | succ f ih =>
    intro v2 M h
    unfold m_X0_findTelling_L10 at h
    refine g_iload_n (q := 2) C dX0_findTelling_10 rfl rfl ?_
    refine g_bipush (v := 8) C dX0_findTelling_11 (by decide +kernel) ?_
    obtain ⟨g11, h⟩ := h
    obtain ⟨ht, hf⟩ := h
    refine g_icmp_gt (tgt := 82) C dX0_findTelling_13 (by decide) g11 (by decide) (fun c => ?_) (fun c => ?_)
    · have h := ht c
      exact g_retv C hR dX0_findTelling_82 h
    · have h := hf c
      refine g_iconst C dX0_findTelling_16 rfl ?_
      refine g_istore_n (lv' := [(3, vI 0), (0, vR Y 187), (1, vI v1), (2, vI v2)]) C dX0_findTelling_17 rfl (by decide) rfl ?_
      obtain ⟨f0, h⟩ := h
      refine G.sub [1, 2, 3, 0] rfl ?_
      exact w_X0_findTelling_L18 C hR (ih)  f0 _ _ h
set_option maxRecDepth 20000 in
theorem t_X0_findTelling {l : Launch} {Y : YT} (hY : YOK Y) {a0 : Int} {M : Mem} {Q : Mem → Prop} (h : m_X0_findTelling a0 M Q) : Ctr l Y yX0_findTelling cX0_findTelling 5 none 3 [vR Y 187, vI a0] M (PQv Y Q) := by
  unfold m_X0_findTelling at h
  refine ctr_ofF hY (by decide +kernel) (Nat.le_of_ble_eq_true rfl) [(0, vR Y 187), (1, vI a0)] rfl (fun X hX C hR => ?_)
  refine g_aload_n (q := 0) C dX0_findTelling_0 rfl rfl ?_
  refine g_getI C fX0_50 (by decide) dX0_findTelling_1 kd_187 ?_
  obtain ⟨g12, h⟩ := h
  obtain ⟨ht, hf⟩ := h
  refine g_if_ne (tgt := 8) C dX0_findTelling_4 (by decide) g12 (fun c => ?_) (fun c => ?_)
  · have h := hf c
    refine g_iconst C dX0_findTelling_8 rfl ?_
    refine g_istore_n (lv' := [(2, vI 1), (0, vR Y 187), (1, vI a0)]) C dX0_findTelling_9 rfl (by decide) rfl ?_
    obtain ⟨f0, h⟩ := h
    refine G.sub [1, 2, 0] rfl ?_
    exact w_X0_findTelling_L10 C hR  f0 _ _ h
  · have h := ht c
    exact g_retv C hR dX0_findTelling_7 h
set_option maxRecDepth 20000 in
theorem w_X1_add_J30 {Y : YT} {X : CX} (C : Cx Y X cX1_add 2 RX1 1) {Q : Int → Mem → Prop} (hR : Rt Y X (some .boolean) (PQi Y Q))   {M : Mem}  (h : m_X1_add_J30  Q  M) : G Y X 2 30 [] ([]) M := by
  unfold m_X1_add_J30 at h
  refine g_iconst C dX1_add_30 rfl ?_
  exact g_retz C hR dX1_add_31 (by decide) h
set_option maxRecDepth 20000 in
theorem t_X1_add {l : Launch} {Y : YT} (hY : YOK Y) {o : Int} {a0 : Int} {M : Mem} {Q : Int → Mem → Prop} (h : m_X1_add o a0 M Q) : Ctr l Y yX1_add cX1_add 2 (some .boolean) 1 [vR Y o, vI a0] M (PQi Y Q) := by
  unfold m_X1_add at h
  obtain ⟨hk_o, h⟩ := h
  refine ctr_ofF hY (by decide +kernel) (Nat.le_of_ble_eq_true rfl) [(0, vR Y o), (1, vI a0)] rfl (fun X hX C hR => ?_)
  refine g_aload_n (q := 0) C dX1_add_0 rfl rfl ?_
  refine g_getI C fX1_18 (by decide) dX1_add_1 hk_o ?_
  refine g_sipush (v := 1600) C dX1_add_4 (by decide +kernel) ?_
  obtain ⟨g1, h⟩ := h
  obtain ⟨ht, hf⟩ := h
  refine g_icmp_ge (tgt := 30) C dX1_add_7 (by decide) g1 (by decide) (fun c => ?_) (fun c => ?_)
  · have h := ht c
    refine G.sub [] rfl ?_
    exact w_X1_add_J30 C hR  h
  · have h := hf c
    refine g_aload_n (q := 0) C dX1_add_10 rfl rfl ?_
    refine g_getS (v := o + 1) C fX1_9 dX1_add_11 hk_o rfl ?_
    refine g_aload_n (q := 0) C dX1_add_14 rfl rfl ?_
    refine g_getI C fX1_18 (by decide) dX1_add_15 hk_o ?_
    refine g_iload_n (q := 1) C dX1_add_18 rfl rfl ?_
    obtain ⟨g2, h⟩ := h
    obtain ⟨M3, e_M3⟩ : ∃ z : Mem, z = up M (o + 1) (M o 2) a0 := ⟨_, rfl⟩
    have h := h M3 e_M3
    refine g_iast C dX1_add_19 (sub_1_0 hk_o).1 (sub_1_0 hk_o).2 g2 e_M3 ?_
    refine g_aload_n (q := 0) C dX1_add_20 rfl rfl ?_
    refine g_dup C dX1_add_21 rfl ?_
    refine g_getI C fX1_18 (by decide) dX1_add_22 hk_o ?_
    refine g_iconst C dX1_add_25 rfl ?_
    refine g_iadd C dX1_add_26 ?_
    obtain ⟨M4, e_M4⟩ : ∃ z : Mem, z = up M3 o 2 ((M3 o 2) + 1) := ⟨_, rfl⟩
    have h := h M4 e_M4
    refine g_putI C fX1_18 pX1_18 dX1_add_27 hk_o e_M4 ?_
    refine G.sub [] rfl ?_
    exact w_X1_add_J30 C hR  h
set_option maxRecDepth 20000 in
theorem w_X1_joined_J155 {Y : YT} {X : CX} (C : Cx Y X cX1_joined 5 RX1 2) {Q : Int → Mem → Prop} (hR : Rt Y X (some .long) (PQl Y Q)) {s0 : Int}  {M : Mem}  (h : m_X1_joined_J155  Q s0 M) : G Y X 5 155 [] ((vL s0) :: []) M := by
  unfold m_X1_joined_J155 at h
  exact g_retl C hR dX1_joined_155 h
set_option maxRecDepth 20000 in
theorem w_X1_joined_J143 {Y : YT} {X : CX} (C : Cx Y X cX1_joined 5 RX1 2) {Q : Int → Mem → Prop} (hR : Rt Y X (some .long) (PQl Y Q)) {s0 : Int}  {M : Mem}  (h : m_X1_joined_J143  Q s0 M) : G Y X 5 143 [] ((vL s0) :: []) M := by
  unfold m_X1_joined_J143 at h
  exact g_retl C hR dX1_joined_143 h
set_option maxRecDepth 20000 in
theorem w_X1_joined_J131 {Y : YT} {X : CX} (C : Cx Y X cX1_joined 5 RX1 2) {Q : Int → Mem → Prop} (hR : Rt Y X (some .long) (PQl Y Q)) {s0 : Int}  {M : Mem}  (h : m_X1_joined_J131  Q s0 M) : G Y X 5 131 [] ((vL s0) :: []) M := by
  unfold m_X1_joined_J131 at h
  exact g_retl C hR dX1_joined_131 h
set_option maxRecDepth 20000 in
theorem w_X1_joined_J107 {Y : YT} {X : CX} (C : Cx Y X cX1_joined 5 RX1 2) {Q : Int → Mem → Prop} (hR : Rt Y X (some .long) (PQl Y Q)) {s0 : Int}  {M : Mem}  (h : m_X1_joined_J107  Q s0 M) : G Y X 5 107 [] ((vL s0) :: []) M := by
  unfold m_X1_joined_J107 at h
  exact g_retl C hR dX1_joined_107 h
set_option maxRecDepth 20000 in
theorem w_X1_joined_J91 {Y : YT} {X : CX} (C : Cx Y X cX1_joined 5 RX1 2) {Q : Int → Mem → Prop} (hR : Rt Y X (some .long) (PQl Y Q)) {s0 : Int}  {M : Mem}  (h : m_X1_joined_J91  Q s0 M) : G Y X 5 91 [] ((vL s0) :: []) M := by
  unfold m_X1_joined_J91 at h
  exact g_retl C hR dX1_joined_91 h
set_option maxRecDepth 20000 in
theorem t_X1_joined {l : Launch} {Y : YT} (hY : YOK Y) {a0 : Int} {a1 : Int} {a2 : Int} {M : Mem} {Q : Int → Mem → Prop} (h : m_X1_joined a0 a1 a2 M Q) : Ctr l Y yX1_joined cX1_joined 5 (some .long) 2 [vI a0, vL a1, vL a2] M (PQl Y Q) := by
  unfold m_X1_joined at h
  refine ctr_ofF hY (by decide +kernel) (Nat.le_of_ble_eq_true rfl) [(0, vI a0), (1, vL a1), (3, vL a2)] rfl (fun X hX C hR => ?_)
  refine g_iload_n (q := 0) C dX1_joined_0 rfl rfl ?_
  obtain ⟨g1, h⟩ := h
  refine G.nmI (x := a0) rfl ?_
  obtain ⟨c0, c1, c2, c3, c4, c5, c6, c7, c8, c9, c10, c11, c12⟩ := h
  rcases (show (a0 = (-19)) ∨ (a0 = (-18)) ∨ (a0 = (-17)) ∨ (a0 = (-16)) ∨ (a0 = (-15)) ∨ (a0 = (-14)) ∨ (a0 = (-13)) ∨ (a0 = (-12)) ∨ (a0 = (-11)) ∨ (a0 = (-10)) ∨ (a0 = (-9)) ∨ (a0 = (-8)) ∨ (a0 < (-19) ∨ (-8) < a0) by omega) with q | q | q | q | q | q | q | q | q | q | q | q | q
  · have h := c0 q
    refine g_tswIn (off := 159) (tgt := 160) C dX1_joined_1 g1 (by omega) (by omega) (by rw [q]; rfl) (by decide) ?_
    refine g_lload_n (q := 1) C dX1_joined_160 rfl rfl ?_
    refine g_lload_n (q := 2) C dX1_joined_161 rfl rfl ?_
    refine g_lor C dX1_joined_162 ?_
    exact g_retl C hR dX1_joined_163 h
  · have h := c1 q
    refine g_tswIn (off := 155) (tgt := 156) C dX1_joined_1 g1 (by omega) (by omega) (by rw [q]; rfl) (by decide) ?_
    refine g_lload_n (q := 1) C dX1_joined_156 rfl rfl ?_
    refine g_lload_n (q := 2) C dX1_joined_157 rfl rfl ?_
    refine g_land C dX1_joined_158 ?_
    exact g_retl C hR dX1_joined_159 h
  · have h := c2 q
    refine g_tswIn (off := 143) (tgt := 144) C dX1_joined_1 g1 (by omega) (by omega) (by rw [q]; rfl) (by decide) ?_
    refine g_lload_n (q := 1) C dX1_joined_144 rfl rfl ?_
    refine g_lload_n (q := 2) C dX1_joined_145 rfl rfl ?_
    obtain ⟨g2, h⟩ := h
    obtain ⟨g3, h⟩ := h
    obtain ⟨ht, hf⟩ := h
    refine g_lcmp_ne (tgt := 154) C dX1_joined_146 dX1_joined_147 (by decide) g2 g3 (fun c => ?_) (fun c => ?_)
    · have h := hf c
      refine g_lconst (v := 0) C dX1_joined_154 (by decide +kernel) ?_
      refine G.sub [] rfl ?_
      exact w_X1_joined_J155 C hR  h
    · have h := ht c
      refine g_lconst (v := 1) C dX1_joined_150 (by decide +kernel) ?_
      refine g_goto (tgt := 155) C dX1_joined_151 (by decide) ?_
      refine G.sub [] rfl ?_
      exact w_X1_joined_J155 C hR  h
  · have h := c3 q
    refine g_tswIn (off := 131) (tgt := 132) C dX1_joined_1 g1 (by omega) (by omega) (by rw [q]; rfl) (by decide) ?_
    refine g_lload_n (q := 1) C dX1_joined_132 rfl rfl ?_
    refine g_lload_n (q := 2) C dX1_joined_133 rfl rfl ?_
    obtain ⟨g4, h⟩ := h
    obtain ⟨g5, h⟩ := h
    obtain ⟨ht, hf⟩ := h
    refine g_lcmp_le (tgt := 142) C dX1_joined_134 dX1_joined_135 (by decide) g4 g5 (fun c => ?_) (fun c => ?_)
    · have h := ht c
      refine g_lconst (v := 0) C dX1_joined_142 (by decide +kernel) ?_
      refine G.sub [] rfl ?_
      exact w_X1_joined_J143 C hR  h
    · have h := hf c
      refine g_lconst (v := 1) C dX1_joined_138 (by decide +kernel) ?_
      refine g_goto (tgt := 143) C dX1_joined_139 (by decide) ?_
      refine G.sub [] rfl ?_
      exact w_X1_joined_J143 C hR  h
  · have h := c4 q
    refine g_tswIn (off := 119) (tgt := 120) C dX1_joined_1 g1 (by omega) (by omega) (by rw [q]; rfl) (by decide) ?_
    refine g_lload_n (q := 1) C dX1_joined_120 rfl rfl ?_
    refine g_lload_n (q := 2) C dX1_joined_121 rfl rfl ?_
    obtain ⟨g6, h⟩ := h
    obtain ⟨g7, h⟩ := h
    obtain ⟨ht, hf⟩ := h
    refine g_lcmp_ge (tgt := 130) C dX1_joined_122 dX1_joined_123 (by decide) g6 g7 (fun c => ?_) (fun c => ?_)
    · have h := ht c
      refine g_lconst (v := 0) C dX1_joined_130 (by decide +kernel) ?_
      refine G.sub [] rfl ?_
      exact w_X1_joined_J131 C hR  h
    · have h := hf c
      refine g_lconst (v := 1) C dX1_joined_126 (by decide +kernel) ?_
      refine g_goto (tgt := 131) C dX1_joined_127 (by decide) ?_
      refine G.sub [] rfl ?_
      exact w_X1_joined_J131 C hR  h
  · have h := c5 q
    refine g_tswIn (off := 113) (tgt := 114) C dX1_joined_1 g1 (by omega) (by omega) (by rw [q]; rfl) (by decide) ?_
    refine g_lload_n (q := 1) C dX1_joined_114 rfl rfl ?_
    refine g_lload_n (q := 2) C dX1_joined_115 rfl rfl ?_
    refine g_cSl (As := [vL a1, vL a2]) C clX1_36 clsJ9_max_f86c9 dX1_joined_116 rfl (Nat.le_of_ble_eq_true rfl) rfl (by decide) (t_J9_max_f86c9 (Cx.ok C) h) (fun r9 M8 h => ?_)
    exact g_retl C hR dX1_joined_119 h
  · have h := c6 q
    refine g_tswIn (off := 107) (tgt := 108) C dX1_joined_1 g1 (by omega) (by omega) (by rw [q]; rfl) (by decide) ?_
    refine g_lload_n (q := 1) C dX1_joined_108 rfl rfl ?_
    refine g_lload_n (q := 2) C dX1_joined_109 rfl rfl ?_
    refine g_cSl (As := [vL a1, vL a2]) C clX1_30 clsJ9_min_f86c9 dX1_joined_110 rfl (Nat.le_of_ble_eq_true rfl) rfl (by decide) (t_J9_min_f86c9 (Cx.ok C) h) (fun r11 M10 h => ?_)
    exact g_retl C hR dX1_joined_113 h
  · have h := c7 q
    refine g_tswIn (off := 91) (tgt := 92) C dX1_joined_1 g1 (by omega) (by omega) (by rw [q]; rfl) (by decide) ?_
    refine g_lload_n (q := 2) C dX1_joined_92 rfl rfl ?_
    refine g_lconst (v := 0) C dX1_joined_93 (by decide +kernel) ?_
    obtain ⟨g12, h⟩ := h
    obtain ⟨ht, hf⟩ := h
    refine g_lcmp_ne (tgt := 102) C dX1_joined_94 dX1_joined_95 (by decide) g12 (by decide) (fun c => ?_) (fun c => ?_)
    · have h := hf c
      refine g_lload_n (q := 1) C dX1_joined_102 rfl rfl ?_
      refine g_lload_n (q := 2) C dX1_joined_103 rfl rfl ?_
      refine g_cSl (As := [vL a1, vL a2]) C clX1_42 clsJ9_floorMod_f86c9 dX1_joined_104 rfl (Nat.le_of_ble_eq_true rfl) rfl (by decide) (t_J9_floorMod_f86c9 (Cx.ok C) h) (fun r14 M13 h => ?_)
      refine G.sub [] rfl ?_
      exact w_X1_joined_J107 C hR  h
    · have h := ht c
      refine g_lconst (v := 0) C dX1_joined_98 (by decide +kernel) ?_
      refine g_goto (tgt := 107) C dX1_joined_99 (by decide) ?_
      refine G.sub [] rfl ?_
      exact w_X1_joined_J107 C hR  h
  · have h := c8 q
    refine g_tswIn (off := 75) (tgt := 76) C dX1_joined_1 g1 (by omega) (by omega) (by rw [q]; rfl) (by decide) ?_
    refine g_lload_n (q := 2) C dX1_joined_76 rfl rfl ?_
    refine g_lconst (v := 0) C dX1_joined_77 (by decide +kernel) ?_
    obtain ⟨g15, h⟩ := h
    obtain ⟨ht, hf⟩ := h
    refine g_lcmp_ne (tgt := 86) C dX1_joined_78 dX1_joined_79 (by decide) g15 (by decide) (fun c => ?_) (fun c => ?_)
    · have h := hf c
      refine g_lload_n (q := 1) C dX1_joined_86 rfl rfl ?_
      refine g_lload_n (q := 2) C dX1_joined_87 rfl rfl ?_
      refine g_cSl (As := [vL a1, vL a2]) C clX1_39 clsJ9_floorDiv_f86c9 dX1_joined_88 rfl (Nat.le_of_ble_eq_true rfl) rfl (by decide) (t_J9_floorDiv_f86c9 (Cx.ok C) h) (fun r17 M16 h => ?_)
      refine G.sub [] rfl ?_
      exact w_X1_joined_J91 C hR  h
    · have h := ht c
      refine g_lconst (v := 0) C dX1_joined_82 (by decide +kernel) ?_
      refine g_goto (tgt := 91) C dX1_joined_83 (by decide) ?_
      refine G.sub [] rfl ?_
      exact w_X1_joined_J91 C hR  h
  · have h := c9 q
    refine g_tswIn (off := 71) (tgt := 72) C dX1_joined_1 g1 (by omega) (by omega) (by rw [q]; rfl) (by decide) ?_
    refine g_lload_n (q := 1) C dX1_joined_72 rfl rfl ?_
    refine g_lload_n (q := 2) C dX1_joined_73 rfl rfl ?_
    refine g_lmul C dX1_joined_74 ?_
    exact g_retl C hR dX1_joined_75 h
  · have h := c10 q
    refine g_tswIn (off := 67) (tgt := 68) C dX1_joined_1 g1 (by omega) (by omega) (by rw [q]; rfl) (by decide) ?_
    refine g_lload_n (q := 1) C dX1_joined_68 rfl rfl ?_
    refine g_lload_n (q := 2) C dX1_joined_69 rfl rfl ?_
    refine g_lsub C dX1_joined_70 ?_
    exact g_retl C hR dX1_joined_71 h
  · have h := c11 q
    refine g_tswIn (off := 63) (tgt := 64) C dX1_joined_1 g1 (by omega) (by omega) (by rw [q]; rfl) (by decide) ?_
    refine g_lload_n (q := 1) C dX1_joined_64 rfl rfl ?_
    refine g_lload_n (q := 2) C dX1_joined_65 rfl rfl ?_
    refine g_ladd C dX1_joined_66 ?_
    exact g_retl C hR dX1_joined_67 h
  · have h := c12 q
    refine g_tswOut (tgt := 164) C dX1_joined_1 g1 q (by decide) ?_
    refine g_lconst (v := 0) C dX1_joined_164 (by decide +kernel) ?_
    exact g_retl C hR dX1_joined_165 h
set_option maxRecDepth 20000 in
theorem w_X1_value_J232 {Y : YT} {X : CX} (C : Cx Y X cX1_value 7 RX1 3) {Q : Int → Mem → Prop} (hR : Rt Y X (some .int) (PQi Y Q)) {s0 : Int}  {M : Mem}  (h : m_X1_value_J232  Q s0 M) : G Y X 7 232 [] ((vI s0) :: []) M := by
  unfold m_X1_value_J232 at h
  exact g_reti C hR dX1_value_232 h
set_option maxRecDepth 20000 in
theorem w_X1_value_J218 {Y : YT} {X : CX} (C : Cx Y X cX1_value 7 RX1 3) {Q : Int → Mem → Prop} (hR : Rt Y X (some .int) (PQi Y Q)) {v0 : Int} {v2 : Int}  {M : Mem} (hk_v0 : kd v0 = 1) (h : m_X1_value_J218  Q v0 v2 M) : G Y X 7 218 [(0, vR Y v0), (2, vI v2)] ([]) M := by
  unfold m_X1_value_J218 at h
  refine g_iload_n (q := 1) C dX1_value_218 rfl rfl ?_
  obtain ⟨g1, h⟩ := h
  obtain ⟨ht, hf⟩ := h
  refine g_if_le (tgt := 231) C dX1_value_219 (by decide) g1 (fun c => ?_) (fun c => ?_)
  · have h := ht c
    refine g_iconst C dX1_value_231 rfl ?_
    refine G.sub [] rfl ?_
    exact w_X1_value_J232 C hR  h
  · have h := hf c
    refine g_aload_n (q := 0) C dX1_value_222 rfl rfl ?_
    refine g_getS (v := v0 + 2) C fX1_15 dX1_value_223 hk_v0 rfl ?_
    refine g_iconst C dX1_value_226 rfl ?_
    refine g_iald C dX1_value_227 (sub_1_1 hk_v0).1 (sub_1_1 hk_v0).2 (by decide) ?_
    refine g_goto (tgt := 232) C dX1_value_228 (by decide) ?_
    refine G.sub [] rfl ?_
    exact w_X1_value_J232 C hR  h
set_option maxRecDepth 20000 in
theorem w_X1_value_J212 {Y : YT} {X : CX} (C : Cx Y X cX1_value 7 RX1 3) {Q : Int → Mem → Prop} (hR : Rt Y X (some .int) (PQi Y Q)) {v0 : Int} {v1 : Int} {v2 : Int} {v3 : Int} {k4 : Int → Int → Mem → Prop} (hk4 : ∀ (v2 : Int) (v3 : Int)  (M : Mem), k4 v2 v3 M → G Y X 7 4 [(0, vR Y v0), (1, vR Y v1), (2, vI v2), (3, vI v3)] ([]) M) {M : Mem} (hk_v0 : kd v0 = 1) (hk_v1 : kd v1 = 20) (h : m_X1_value_J212 k4 Q v0 v1 v2 v3 M) : G Y X 7 212 [(0, vR Y v0), (1, vR Y v1), (2, vI v2), (3, vI v3)] ([]) M := by
  unfold m_X1_value_J212 at h
  refine g_iinc (q := 3) (v := v3 + 1) (lv' := [(3, vI (v3 + 1)), (0, vR Y v0), (1, vR Y v1), (2, vI v2)]) C dX1_value_212 rfl rfl (by decide) rfl ?_
  refine g_goto (tgt := 4) C dX1_value_215 (by decide) ?_
  refine G.sub [1, 2, 3, 0] rfl ?_
  exact hk4 _ _ _ h
set_option maxRecDepth 20000 in
theorem w_X1_value_J158 {Y : YT} {X : CX} (C : Cx Y X cX1_value 7 RX1 3) {Q : Int → Mem → Prop} (hR : Rt Y X (some .int) (PQi Y Q)) {v0 : Int} {v1 : Int} {v2 : Int} {v3 : Int} {v4 : Int} {k4 : Int → Int → Mem → Prop} (hk4 : ∀ (v2 : Int) (v3 : Int)  (M : Mem), k4 v2 v3 M → G Y X 7 4 [(0, vR Y v0), (1, vR Y v1), (2, vI v2), (3, vI v3)] ([]) M) {M : Mem} (hk_v0 : kd v0 = 1) (hk_v1 : kd v1 = 20) (h : m_X1_value_J158 k4 Q v0 v1 v2 v3 v4 M) : G Y X 7 158 [(0, vR Y v0), (1, vR Y v1), (2, vI v2), (3, vI v3), (4, vI v4)] ([]) M := by
  unfold m_X1_value_J158 at h
  refine g_iload_n (q := 2) C dX1_value_158 rfl rfl ?_
  refine g_iconst C dX1_value_159 rfl ?_
  obtain ⟨g2, h⟩ := h
  obtain ⟨ht, hf⟩ := h
  refine g_icmp_lt (tgt := 212) C dX1_value_160 (by decide) g2 (by decide) (fun c => ?_) (fun c => ?_)
  · have h := ht c
    refine G.sub [0, 1, 2, 3] rfl ?_
    exact w_X1_value_J212 C hR (hk4) hk_v0 hk_v1 h
  · have h := hf c
    refine g_iinc (q := 2) (v := v2 + (-1)) (lv' := [(2, vI (v2 + (-1))), (0, vR Y v0), (1, vR Y v1), (3, vI v3), (4, vI v4)]) C dX1_value_163 rfl rfl (by decide) rfl ?_
    refine g_iload (q := 4) C dX1_value_166 rfl ?_
    refine g_aload_n (q := 1) C dX1_value_168 rfl rfl ?_
    refine g_getS (v := v0 + 2) C fX1_15 dX1_value_169 hk_v0 rfl ?_
    refine g_iload_n (q := 0) C dX1_value_172 rfl rfl ?_
    refine g_iconst C dX1_value_173 rfl ?_
    refine g_isub C dX1_value_174 ?_
    obtain ⟨g3, h⟩ := h
    refine g_iald C dX1_value_175 (sub_1_1 hk_v0).1 (sub_1_1 hk_v0).2 g3 ?_
    obtain ⟨g4, h⟩ := h
    refine g_i2l C dX1_value_176 g4 ?_
    refine g_aload_n (q := 1) C dX1_value_177 rfl rfl ?_
    refine g_getS (v := v0 + 2) C fX1_15 dX1_value_178 hk_v0 rfl ?_
    refine g_iload_n (q := 0) C dX1_value_181 rfl rfl ?_
    obtain ⟨g5, h⟩ := h
    refine g_iald C dX1_value_182 (sub_1_1 hk_v0).1 (sub_1_1 hk_v0).2 g5 ?_
    obtain ⟨g6, h⟩ := h
    refine g_i2l C dX1_value_183 g6 ?_
    refine g_cSl (As := [vI v4, vL (M (v0 + 2) ((v2 + (-1)) - 1)), vL (M (v0 + 2) (v2 + (-1)))]) C clX1_22 clsX1_joined dX1_value_184 rfl (Nat.le_of_ble_eq_true rfl) rfl (by decide) (t_X1_joined (Cx.ok C) h) (fun r8 M7 h => ?_)
    refine g_lstore (lv' := [(5, vL r8), (2, vI (v2 + (-1))), (0, vR Y v0), (1, vR Y v1), (3, vI v3), (4, vI v4)]) C dX1_value_187 (by decide) rfl ?_
    refine g_aload_n (q := 2) C dX1_value_189 rfl rfl ?_
    refine g_getS (v := v0 + 2) C fX1_15 dX1_value_190 hk_v0 rfl ?_
    refine g_iload_n (q := 1) C dX1_value_193 rfl rfl ?_
    refine g_iconst C dX1_value_194 rfl ?_
    refine g_isub C dX1_value_195 ?_
    refine g_ldc2 (v := (-1000000)) C dX1_value_196 kX1_26 (by decide +kernel) ?_
    refine g_ldc2 (v := 1000000) C dX1_value_199 kX1_28 (by decide +kernel) ?_
    refine g_lload (q := 0) C dX1_value_202 rfl ?_
    refine g_cSl (As := [vL 1000000, vL r8]) C clX1_30 clsJ9_min_f86c9 dX1_value_204 rfl (Nat.le_of_ble_eq_true rfl) rfl (by decide) (t_J9_min_f86c9 (Cx.ok C) h) (fun r10 M9 h => ?_)
    refine g_cSl (As := [vL (-1000000), vL r10]) C clX1_36 clsJ9_max_f86c9 dX1_value_207 rfl (Nat.le_of_ble_eq_true rfl) rfl (by decide) (t_J9_max_f86c9 (Cx.ok C) h) (fun r12 M11 h => ?_)
    refine g_l2i C dX1_value_210 ?_
    obtain ⟨g13, h⟩ := h
    obtain ⟨M14, e_M14⟩ : ∃ z : Mem, z = up M11 (v0 + 2) ((v2 + (-1)) - 1) r12 := ⟨_, rfl⟩
    have h := h M14 e_M14
    refine g_iast C dX1_value_211 (sub_1_1 hk_v0).1 (sub_1_1 hk_v0).2 g13 e_M14 ?_
    refine G.sub [2, 3, 1, 4] rfl ?_
    exact w_X1_value_J212 C hR (hk4) hk_v0 hk_v1 h
set_option maxRecDepth 20000 in
theorem w_X1_value_J154 {Y : YT} {X : CX} (C : Cx Y X cX1_value 7 RX1 3) {Q : Int → Mem → Prop} (hR : Rt Y X (some .int) (PQi Y Q)) {v0 : Int} {v1 : Int} {v2 : Int} {v3 : Int} {s0 : Int} {s1 : Int} {s2 : Int} {k4 : Int → Int → Mem → Prop} (hk4 : ∀ (v2 : Int) (v3 : Int)  (M : Mem), k4 v2 v3 M → G Y X 7 4 [(0, vR Y v0), (1, vR Y v1), (2, vI v2), (3, vI v3)] ([]) M) {M : Mem} (hk_v0 : kd v0 = 1) (hk_v1 : kd v1 = 20) (hk_s0 : kd s0 = 20) (h : m_X1_value_J154 k4 Q v0 v1 v2 v3 s0 s1 s2 M) : G Y X 7 154 [(0, vR Y v0), (1, vR Y v1), (2, vI v2), (3, vI v3)] ((vI s2) :: (vI s1) :: (vR Y s0) :: []) M := by
  unfold m_X1_value_J154 at h
  obtain ⟨g15, h⟩ := h
  obtain ⟨M16, e_M16⟩ : ∃ z : Mem, z = up M s0 s1 s2 := ⟨_, rfl⟩
  have h := h M16 e_M16
  refine g_iast C dX1_value_154 hk_s0 rfl g15 e_M16 ?_
  refine g_goto (tgt := 212) C dX1_value_155 (by decide) ?_
  refine G.sub [0, 1, 2, 3] rfl ?_
  exact w_X1_value_J212 C hR (hk4) hk_v0 hk_v1 h
set_option maxRecDepth 20000 in
theorem w_X1_value_J103 {Y : YT} {X : CX} (C : Cx Y X cX1_value 7 RX1 3) {Q : Int → Mem → Prop} (hR : Rt Y X (some .int) (PQi Y Q)) {v0 : Int} {v1 : Int} {v2 : Int} {v3 : Int} {v4 : Int} {k4 : Int → Int → Mem → Prop} (hk4 : ∀ (v2 : Int) (v3 : Int)  (M : Mem), k4 v2 v3 M → G Y X 7 4 [(0, vR Y v0), (1, vR Y v1), (2, vI v2), (3, vI v3)] ([]) M) {M : Mem} (hk_v0 : kd v0 = 1) (hk_v1 : kd v1 = 20) (h : m_X1_value_J103 k4 Q v0 v1 v2 v3 v4 M) : G Y X 7 103 [(0, vR Y v0), (1, vR Y v1), (2, vI v2), (3, vI v3), (4, vI v4)] ([]) M := by
  unfold m_X1_value_J103 at h
  refine g_iload (q := 4) C dX1_value_103 rfl ?_
  refine g_bipush (v := (-21)) C dX1_value_105 (by decide +kernel) ?_
  obtain ⟨g17, h⟩ := h
  obtain ⟨ht, hf⟩ := h
  refine g_icmp_ne (tgt := 158) C dX1_value_107 (by decide) g17 (by decide) (fun c => ?_) (fun c => ?_)
  · have h := hf c
    refine G.sub [0, 1, 2, 3, 4] rfl ?_
    exact w_X1_value_J158 C hR (hk4) hk_v0 hk_v1 h
  · have h := ht c
    refine g_iload_n (q := 2) C dX1_value_110 rfl rfl ?_
    refine g_iconst C dX1_value_111 rfl ?_
    obtain ⟨g18, h⟩ := h
    obtain ⟨ht, hf⟩ := h
    refine g_icmp_lt (tgt := 158) C dX1_value_112 (by decide) g18 (by decide) (fun c => ?_) (fun c => ?_)
    · have h := ht c
      refine G.sub [0, 1, 2, 3, 4] rfl ?_
      exact w_X1_value_J158 C hR (hk4) hk_v0 hk_v1 h
    · have h := hf c
      refine g_iinc (q := 2) (v := v2 + (-2)) (lv' := [(2, vI (v2 + (-2))), (0, vR Y v0), (1, vR Y v1), (3, vI v3), (4, vI v4)]) C dX1_value_115 rfl rfl (by decide) rfl ?_
      refine g_aload_n (q := 1) C dX1_value_118 rfl rfl ?_
      refine g_getS (v := v0 + 2) C fX1_15 dX1_value_119 hk_v0 rfl ?_
      refine g_iload_n (q := 0) C dX1_value_122 rfl rfl ?_
      refine g_iconst C dX1_value_123 rfl ?_
      refine g_isub C dX1_value_124 ?_
      refine g_aload_n (q := 1) C dX1_value_125 rfl rfl ?_
      refine g_getS (v := v0 + 2) C fX1_15 dX1_value_126 hk_v0 rfl ?_
      refine g_iload_n (q := 0) C dX1_value_129 rfl rfl ?_
      refine g_iconst C dX1_value_130 rfl ?_
      refine g_isub C dX1_value_131 ?_
      obtain ⟨g19, h⟩ := h
      refine g_iald C dX1_value_132 (sub_1_1 hk_v0).1 (sub_1_1 hk_v0).2 g19 ?_
      refine g_iconst C dX1_value_133 rfl ?_
      obtain ⟨g20, h⟩ := h
      obtain ⟨ht, hf⟩ := h
      refine g_icmp_ne (tgt := 146) C dX1_value_134 (by decide) g20 (by decide) (fun c => ?_) (fun c => ?_)
      · have h := hf c
        refine g_aload_n (q := 1) C dX1_value_146 rfl rfl ?_
        refine g_getS (v := v0 + 2) C fX1_15 dX1_value_147 hk_v0 rfl ?_
        refine g_iload_n (q := 0) C dX1_value_150 rfl rfl ?_
        refine g_iconst C dX1_value_151 rfl ?_
        refine g_iadd C dX1_value_152 ?_
        obtain ⟨g21, h⟩ := h
        refine g_iald C dX1_value_153 (sub_1_1 hk_v0).1 (sub_1_1 hk_v0).2 g21 ?_
        refine G.sub [1, 2, 0, 3] rfl ?_
        exact w_X1_value_J154 C hR (hk4) hk_v0 hk_v1 (sub_1_1 hk_v0).1 h
      · have h := ht c
        refine g_aload_n (q := 1) C dX1_value_137 rfl rfl ?_
        refine g_getS (v := v0 + 2) C fX1_15 dX1_value_138 hk_v0 rfl ?_
        refine g_iload_n (q := 0) C dX1_value_141 rfl rfl ?_
        obtain ⟨g22, h⟩ := h
        refine g_iald C dX1_value_142 (sub_1_1 hk_v0).1 (sub_1_1 hk_v0).2 g22 ?_
        refine g_goto (tgt := 154) C dX1_value_143 (by decide) ?_
        refine G.sub [1, 2, 0, 3] rfl ?_
        exact w_X1_value_J154 C hR (hk4) hk_v0 hk_v1 (sub_1_1 hk_v0).1 h
set_option maxRecDepth 20000 in
theorem w_X1_value_L4 {Y : YT} {X : CX} (C : Cx Y X cX1_value 7 RX1 3) {Q : Int → Mem → Prop} (hR : Rt Y X (some .int) (PQi Y Q)) {v0 : Int} {v1 : Int}  (hk_v0 : kd v0 = 1) (hk_v1 : kd v1 = 20): ∀ (f : Nat) (v2 : Int) (v3 : Int) (M : Mem), m_X1_value_L4  Q v0 v1 f v2 v3 M → G Y X 7 4 [(0, vR Y v0), (1, vR Y v1), (2, vI v2), (3, vI v3)] ([]) M := by
  intro f
  induction f with
  | zero =>
    intro v2 v3 M h
    exact (show False from h).elim
  | succ f ih =>
    intro v2 v3 M h
    unfold m_X1_value_L4 at h
    refine g_iload_n (q := 3) C dX1_value_4 rfl rfl ?_
    refine g_aload_n (q := 0) C dX1_value_5 rfl rfl ?_
    refine g_getI C fX1_18 (by decide) dX1_value_6 hk_v0 ?_
    obtain ⟨g23, h⟩ := h
    obtain ⟨g24, h⟩ := h
    obtain ⟨ht, hf⟩ := h
    refine g_icmp_ge (tgt := 218) C dX1_value_9 (by decide) g23 g24 (fun c => ?_) (fun c => ?_)
    · have h := ht c
      refine G.sub [0, 2] rfl ?_
      exact w_X1_value_J218 C hR hk_v0 h
    · have h := hf c
      refine g_iload_n (q := 2) C dX1_value_12 rfl rfl ?_
      refine g_bipush (v := 64) C dX1_value_13 (by decide +kernel) ?_
      obtain ⟨g25, h⟩ := h
      obtain ⟨ht, hf⟩ := h
      refine g_icmp_ge (tgt := 218) C dX1_value_15 (by decide) g25 (by decide) (fun c => ?_) (fun c => ?_)
      · have h := ht c
        refine G.sub [0, 2] rfl ?_
        exact w_X1_value_J218 C hR hk_v0 h
      · have h := hf c
        refine g_aload_n (q := 0) C dX1_value_18 rfl rfl ?_
        refine g_getS (v := v0 + 1) C fX1_9 dX1_value_19 hk_v0 rfl ?_
        refine g_iload_n (q := 3) C dX1_value_22 rfl rfl ?_
        obtain ⟨g26, h⟩ := h
        refine g_iald C dX1_value_23 (sub_1_0 hk_v0).1 (sub_1_0 hk_v0).2 g26 ?_
        refine g_istore (lv' := [(4, vI (M (v0 + 1) v3)), (0, vR Y v0), (1, vR Y v1), (2, vI v2), (3, vI v3)]) C dX1_value_24 (by decide) rfl ?_
        refine g_iload (q := 0) C dX1_value_26 rfl ?_
        obtain ⟨g27, h⟩ := h
        obtain ⟨ht, hf⟩ := h
        refine g_if_lt (tgt := 45) C dX1_value_28 (by decide) g27 (fun c => ?_) (fun c => ?_)
        · have h := ht c
          refine g_iload (q := 0) C dX1_value_45 rfl ?_
          refine g_bipush (v := (-7)) C dX1_value_47 (by decide +kernel) ?_
          obtain ⟨g28, h⟩ := h
          obtain ⟨ht, hf⟩ := h
          refine g_icmp_lt (tgt := 70) C dX1_value_49 (by decide) g28 (by decide) (fun c => ?_) (fun c => ?_)
          · have h := ht c
            refine g_iload (q := 0) C dX1_value_70 rfl ?_
            refine g_bipush (v := (-20)) C dX1_value_72 (by decide +kernel) ?_
            obtain ⟨g29, h⟩ := h
            obtain ⟨ht, hf⟩ := h
            refine g_icmp_ne (tgt := 103) C dX1_value_74 (by decide) g29 (by decide) (fun c => ?_) (fun c => ?_)
            · have h := hf c
              refine G.sub [1, 2, 3, 4, 0] rfl ?_
              exact w_X1_value_J103 C hR (ih) hk_v0 hk_v1 h
            · have h := ht c
              refine g_iload_n (q := 3) C dX1_value_77 rfl rfl ?_
              refine g_iconst C dX1_value_78 rfl ?_
              obtain ⟨g30, h⟩ := h
              obtain ⟨ht, hf⟩ := h
              refine g_icmp_lt (tgt := 103) C dX1_value_79 (by decide) g30 (by decide) (fun c => ?_) (fun c => ?_)
              · have h := ht c
                refine G.sub [1, 2, 3, 4, 0] rfl ?_
                exact w_X1_value_J103 C hR (ih) hk_v0 hk_v1 h
              · have h := hf c
                refine g_aload_n (q := 1) C dX1_value_82 rfl rfl ?_
                refine g_getS (v := v0 + 2) C fX1_15 dX1_value_83 hk_v0 rfl ?_
                refine g_iload_n (q := 3) C dX1_value_86 rfl rfl ?_
                refine g_iconst C dX1_value_87 rfl ?_
                refine g_isub C dX1_value_88 ?_
                refine g_iconst C dX1_value_89 rfl ?_
                refine g_aload_n (q := 1) C dX1_value_90 rfl rfl ?_
                refine g_getS (v := v0 + 2) C fX1_15 dX1_value_91 hk_v0 rfl ?_
                refine g_iload_n (q := 3) C dX1_value_94 rfl rfl ?_
                refine g_iconst C dX1_value_95 rfl ?_
                refine g_isub C dX1_value_96 ?_
                obtain ⟨g31, h⟩ := h
                refine g_iald C dX1_value_97 (sub_1_1 hk_v0).1 (sub_1_1 hk_v0).2 g31 ?_
                refine g_isub C dX1_value_98 ?_
                obtain ⟨g32, h⟩ := h
                obtain ⟨M33, e_M33⟩ : ∃ z : Mem, z = up M (v0 + 2) (v2 - 1) (1 - (M (v0 + 2) (v2 - 1))) := ⟨_, rfl⟩
                have h := h M33 e_M33
                refine g_iast C dX1_value_99 (sub_1_1 hk_v0).1 (sub_1_1 hk_v0).2 g32 e_M33 ?_
                refine g_goto (tgt := 212) C dX1_value_100 (by decide) ?_
                refine G.sub [1, 2, 3, 4] rfl ?_
                exact w_X1_value_J212 C hR (ih) hk_v0 hk_v1 h
          · have h := hf c
            refine g_aload_n (q := 1) C dX1_value_52 rfl rfl ?_
            refine g_getS (v := v0 + 2) C fX1_15 dX1_value_53 hk_v0 rfl ?_
            refine g_iload_n (q := 3) C dX1_value_56 rfl rfl ?_
            refine g_aload_n (q := 2) C dX1_value_57 rfl rfl ?_
            refine g_iconst C dX1_value_58 rfl ?_
            refine g_iload (q := 0) C dX1_value_59 rfl ?_
            refine g_isub C dX1_value_61 ?_
            obtain ⟨g34, h⟩ := h
            refine g_iald C dX1_value_62 hk_v1 rfl g34 ?_
            obtain ⟨g35, h⟩ := h
            obtain ⟨M36, e_M36⟩ : ∃ z : Mem, z = up M (v0 + 2) v2 (M v1 ((-1) - (M (v0 + 1) v3))) := ⟨_, rfl⟩
            have h := h M36 e_M36
            refine g_iast C dX1_value_63 (sub_1_1 hk_v0).1 (sub_1_1 hk_v0).2 g35 e_M36 ?_
            refine g_iinc (q := 3) (v := v2 + 1) (lv' := [(2, vI (v2 + 1)), (4, vI (M (v0 + 1) v3)), (0, vR Y v0), (1, vR Y v1), (3, vI v3)]) C dX1_value_64 rfl rfl (by decide) rfl ?_
            refine g_goto (tgt := 212) C dX1_value_67 (by decide) ?_
            refine G.sub [2, 3, 0, 4] rfl ?_
            exact w_X1_value_J212 C hR (ih) hk_v0 hk_v1 h
        · have h := hf c
          refine g_aload_n (q := 1) C dX1_value_31 rfl rfl ?_
          refine g_getS (v := v0 + 2) C fX1_15 dX1_value_32 hk_v0 rfl ?_
          refine g_iload_n (q := 3) C dX1_value_35 rfl rfl ?_
          refine g_iload (q := 0) C dX1_value_36 rfl ?_
          obtain ⟨g37, h⟩ := h
          obtain ⟨M38, e_M38⟩ : ∃ z : Mem, z = up M (v0 + 2) v2 (M (v0 + 1) v3) := ⟨_, rfl⟩
          have h := h M38 e_M38
          refine g_iast C dX1_value_38 (sub_1_1 hk_v0).1 (sub_1_1 hk_v0).2 g37 e_M38 ?_
          refine g_iinc (q := 3) (v := v2 + 1) (lv' := [(2, vI (v2 + 1)), (4, vI (M (v0 + 1) v3)), (0, vR Y v0), (1, vR Y v1), (3, vI v3)]) C dX1_value_39 rfl rfl (by decide) rfl ?_
          refine g_goto (tgt := 212) C dX1_value_42 (by decide) ?_
          refine G.sub [2, 3, 0, 4] rfl ?_
          exact w_X1_value_J212 C hR (ih) hk_v0 hk_v1 h
set_option maxRecDepth 20000 in
theorem t_X1_value {l : Launch} {Y : YT} (hY : YOK Y) {o : Int} {a0 : Int} {M : Mem} {Q : Int → Mem → Prop} (h : m_X1_value o a0 M Q) : Ctr l Y yX1_value cX1_value 7 (some .int) 3 [vR Y o, vR Y a0] M (PQi Y Q) := by
  unfold m_X1_value at h
  obtain ⟨hk_o, h⟩ := h
  obtain ⟨hk_a0, h⟩ := h
  refine ctr_ofF hY (by decide +kernel) (Nat.le_of_ble_eq_true rfl) [(0, vR Y o), (1, vR Y a0)] rfl (fun X hX C hR => ?_)
  refine g_iconst C dX1_value_0 rfl ?_
  refine g_istore_n (lv' := [(2, vI 0), (0, vR Y o), (1, vR Y a0)]) C dX1_value_1 rfl (by decide) rfl ?_
  refine g_iconst C dX1_value_2 rfl ?_
  refine g_istore_n (lv' := [(3, vI 0), (2, vI 0), (0, vR Y o), (1, vR Y a0)]) C dX1_value_3 rfl (by decide) rfl ?_
  obtain ⟨f0, h⟩ := h
  refine G.sub [2, 3, 1, 0] rfl ?_
  exact w_X1_value_L4 C hR hk_o hk_a0 f0 _ _ _ h
set_option maxRecDepth 20000 in
theorem t_X2_readInto {l : Launch} {Y : YT} (hY : YOK Y) {a0 : Int} {a1 : Int} {M : Mem} {Q : Mem → Prop} (h : m_X2_readInto a0 a1 M Q) : Ctr l Y yX2_readInto cX2_readInto 3 none 1 [vR Y 5, vR Y a0, vI a1] M (PQv Y Q) := by
  unfold m_X2_readInto at h
  obtain ⟨hk_a0, h⟩ := h
  refine ctr_ofF hY (by decide +kernel) (Nat.le_of_ble_eq_true rfl) [(0, vR Y 5), (1, vR Y a0), (2, vI a1)] rfl (fun X hX C hR => ?_)
  refine g_aload_n (q := 0) C dX2_readInto_0 rfl rfl ?_
  refine g_aload_n (q := 1) C dX2_readInto_1 rfl rfl ?_
  obtain ⟨M1, e_M1⟩ : ∃ z : Mem, z = up M 5 1 a0 := ⟨_, rfl⟩
  have h := h M1 e_M1
  refine g_putM C fX2_15 pX2_15 dX2_readInto_2 kd_5 (kd_in hk_a0 (by decide)).1 e_M1 ?_
  refine g_aload_n (q := 0) C dX2_readInto_5 rfl rfl ?_
  refine g_iload_n (q := 2) C dX2_readInto_6 rfl rfl ?_
  obtain ⟨g2, h⟩ := h
  obtain ⟨M3, e_M3⟩ : ∃ z : Mem, z = up M1 5 2 a1 := ⟨_, rfl⟩
  have h := h M3 e_M3
  refine g_putZ C fX2_19 pX2_19 dX2_readInto_7 kd_5 g2 e_M3 ?_
  exact g_retv C hR dX2_readInto_10 h
set_option maxRecDepth 20000 in
theorem w_X7_isOwn_J21 {Y : YT} {X : CX} (C : Cx Y X cX7_isOwn 2 RX7 1) {Q : Int → Mem → Prop} (hR : Rt Y X (some .boolean) (PQi Y Q)) {s0 : Int}  {M : Mem}  (h : m_X7_isOwn_J21  Q s0 M) : G Y X 2 21 [] ((vI s0) :: []) M := by
  unfold m_X7_isOwn_J21 at h
  obtain ⟨g1, h⟩ := h
  exact g_retz C hR dX7_isOwn_21 g1 h
set_option maxRecDepth 20000 in
theorem w_X7_isOwn_J20 {Y : YT} {X : CX} (C : Cx Y X cX7_isOwn 2 RX7 1) {Q : Int → Mem → Prop} (hR : Rt Y X (some .boolean) (PQi Y Q))   {M : Mem}  (h : m_X7_isOwn_J20  Q  M) : G Y X 2 20 [] ([]) M := by
  unfold m_X7_isOwn_J20 at h
  refine g_iconst C dX7_isOwn_20 rfl ?_
  refine G.sub [] rfl ?_
  exact w_X7_isOwn_J21 C hR  h
set_option maxRecDepth 20000 in
theorem t_X7_isOwn {l : Launch} {Y : YT} (hY : YOK Y) {a0 : Int} {M : Mem} {Q : Int → Mem → Prop} (h : m_X7_isOwn a0 M Q) : Ctr l Y yX7_isOwn cX7_isOwn 2 (some .boolean) 1 [vR Y 1, vI a0] M (PQi Y Q) := by
  unfold m_X7_isOwn at h
  refine ctr_ofF hY (by decide +kernel) (Nat.le_of_ble_eq_true rfl) [(0, vR Y 1), (1, vI a0)] rfl (fun X hX C hR => ?_)
  refine g_aload_n (q := 0) C dX7_isOwn_0 rfl rfl ?_
  refine g_getI C fX7_43 (by decide) dX7_isOwn_1 kd_1 ?_
  refine g_iconst C dX7_isOwn_4 rfl ?_
  obtain ⟨g2, h⟩ := h
  obtain ⟨ht, hf⟩ := h
  refine g_icmp_ne (tgt := 20) C dX7_isOwn_5 (by decide) g2 (by decide) (fun c => ?_) (fun c => ?_)
  · have h := hf c
    refine G.sub [] rfl ?_
    exact w_X7_isOwn_J20 C hR  h
  · have h := ht c
    refine g_aload_n (q := 0) C dX7_isOwn_8 rfl rfl ?_
    refine g_getI C fX7_55 (by decide) dX7_isOwn_9 kd_1 ?_
    refine g_iload_n (q := 1) C dX7_isOwn_12 rfl rfl ?_
    obtain ⟨g3, h⟩ := h
    obtain ⟨g4, h⟩ := h
    obtain ⟨ht, hf⟩ := h
    refine g_icmp_ne (tgt := 20) C dX7_isOwn_13 (by decide) g3 g4 (fun c => ?_) (fun c => ?_)
    · have h := hf c
      refine G.sub [] rfl ?_
      exact w_X7_isOwn_J20 C hR  h
    · have h := ht c
      refine g_iconst C dX7_isOwn_16 rfl ?_
      refine g_goto (tgt := 21) C dX7_isOwn_17 (by decide) ?_
      refine G.sub [] rfl ?_
      exact w_X7_isOwn_J21 C hR  h
set_option maxRecDepth 20000 in
theorem t_X7_fail {l : Launch} {Y : YT} (hY : YOK Y) {a0 : Int} {M : Mem} {Q : Int → Mem → Prop} (h : m_X7_fail a0 M Q) : Ctr l Y yX7_fail cX7_fail 2 (some .boolean) 1 [vR Y 1, vI a0] M (PQi Y Q) := by
  unfold m_X7_fail at h
  refine ctr_ofF hY (by decide +kernel) (Nat.le_of_ble_eq_true rfl) [(0, vR Y 1), (1, vI a0)] rfl (fun X hX C hR => ?_)
  refine g_aload_n (q := 0) C dX7_fail_0 rfl rfl ?_
  refine g_iload_n (q := 1) C dX7_fail_1 rfl rfl ?_
  obtain ⟨M1, e_M1⟩ : ∃ z : Mem, z = up M 1 6 a0 := ⟨_, rfl⟩
  have h := h M1 e_M1
  refine g_putI C fX7_37 pX7_37 dX7_fail_2 kd_1 e_M1 ?_
  refine g_aload_n (q := 0) C dX7_fail_5 rfl rfl ?_
  refine g_aload_n (q := 0) C dX7_fail_6 rfl rfl ?_
  refine g_getI C fX7_49 (by decide) dX7_fail_7 kd_1 ?_
  obtain ⟨M2, e_M2⟩ : ∃ z : Mem, z = up M1 1 7 (M1 1 3) := ⟨_, rfl⟩
  have h := h M2 e_M2
  refine g_putI C fX7_15 pX7_15 dX7_fail_10 kd_1 e_M2 ?_
  refine g_iconst C dX7_fail_13 rfl ?_
  exact g_retz C hR dX7_fail_14 (by decide) h
set_option maxRecDepth 20000 in
theorem w_X7_letterAt_J45 {Y : YT} {X : CX} (C : Cx Y X cX7_letterAt 2 RX7 1) {Q : Int → Mem → Prop} (hR : Rt Y X (some .int) (PQi Y Q)) {s0 : Int}  {M : Mem}  (h : m_X7_letterAt_J45  Q s0 M) : G Y X 2 45 [] ((vI s0) :: []) M := by
  unfold m_X7_letterAt_J45 at h
  exact g_reti C hR dX7_letterAt_45 h
set_option maxRecDepth 20000 in
theorem w_X7_letterAt_J44 {Y : YT} {X : CX} (C : Cx Y X cX7_letterAt 2 RX7 1) {Q : Int → Mem → Prop} (hR : Rt Y X (some .int) (PQi Y Q))   {M : Mem}  (h : m_X7_letterAt_J44  Q  M) : G Y X 2 44 [] ([]) M := by
  unfold m_X7_letterAt_J44 at h
  refine g_iconst C dX7_letterAt_44 rfl ?_
  refine G.sub [] rfl ?_
  exact w_X7_letterAt_J45 C hR  h
set_option maxRecDepth 20000 in
theorem t_X7_letterAt {l : Launch} {Y : YT} (hY : YOK Y) {a0 : Int} {M : Mem} {Q : Int → Mem → Prop} (h : m_X7_letterAt a0 M Q) : Ctr l Y yX7_letterAt cX7_letterAt 2 (some .int) 1 [vR Y 1, vI a0] M (PQi Y Q) := by
  unfold m_X7_letterAt at h
  refine ctr_ofF hY (by decide +kernel) (Nat.le_of_ble_eq_true rfl) [(0, vR Y 1), (1, vI a0)] rfl (fun X hX C hR => ?_)
  refine g_iload_n (q := 1) C dX7_letterAt_0 rfl rfl ?_
  refine g_aload_n (q := 0) C dX7_letterAt_1 rfl rfl ?_
  refine g_getI C fX7_34 (by decide) dX7_letterAt_2 kd_1 ?_
  obtain ⟨g1, h⟩ := h
  obtain ⟨g2, h⟩ := h
  obtain ⟨ht, hf⟩ := h
  refine g_icmp_ge (tgt := 44) C dX7_letterAt_5 (by decide) g1 g2 (fun c => ?_) (fun c => ?_)
  · have h := ht c
    refine G.sub [] rfl ?_
    exact w_X7_letterAt_J44 C hR  h
  · have h := hf c
    refine g_aload_n (q := 0) C dX7_letterAt_8 rfl rfl ?_
    refine g_getS (v := 2) C fX7_9 dX7_letterAt_9 kd_1 rfl ?_
    refine g_iload_n (q := 1) C dX7_letterAt_12 rfl rfl ?_
    obtain ⟨g3, h⟩ := h
    refine g_iald C dX7_letterAt_13 kd_2 ln_2 g3 ?_
    refine g_bipush (v := 97) C dX7_letterAt_14 (by decide +kernel) ?_
    obtain ⟨g4, h⟩ := h
    obtain ⟨ht, hf⟩ := h
    refine g_icmp_lt (tgt := 44) C dX7_letterAt_16 (by decide) g4 (by decide) (fun c => ?_) (fun c => ?_)
    · have h := ht c
      refine G.sub [] rfl ?_
      exact w_X7_letterAt_J44 C hR  h
    · have h := hf c
      refine g_aload_n (q := 0) C dX7_letterAt_19 rfl rfl ?_
      refine g_getS (v := 2) C fX7_9 dX7_letterAt_20 kd_1 rfl ?_
      refine g_iload_n (q := 1) C dX7_letterAt_23 rfl rfl ?_
      obtain ⟨g5, h⟩ := h
      refine g_iald C dX7_letterAt_24 kd_2 ln_2 g5 ?_
      refine g_bipush (v := 122) C dX7_letterAt_25 (by decide +kernel) ?_
      obtain ⟨g6, h⟩ := h
      obtain ⟨ht, hf⟩ := h
      refine g_icmp_gt (tgt := 44) C dX7_letterAt_27 (by decide) g6 (by decide) (fun c => ?_) (fun c => ?_)
      · have h := ht c
        refine G.sub [] rfl ?_
        exact w_X7_letterAt_J44 C hR  h
      · have h := hf c
        refine g_aload_n (q := 0) C dX7_letterAt_30 rfl rfl ?_
        refine g_getS (v := 2) C fX7_9 dX7_letterAt_31 kd_1 rfl ?_
        refine g_iload_n (q := 1) C dX7_letterAt_34 rfl rfl ?_
        obtain ⟨g7, h⟩ := h
        refine g_iald C dX7_letterAt_35 kd_2 ln_2 g7 ?_
        refine g_bipush (v := 97) C dX7_letterAt_36 (by decide +kernel) ?_
        refine g_isub C dX7_letterAt_38 ?_
        refine g_iconst C dX7_letterAt_39 rfl ?_
        refine g_iadd C dX7_letterAt_40 ?_
        refine g_goto (tgt := 45) C dX7_letterAt_41 (by decide) ?_
        refine G.sub [] rfl ?_
        exact w_X7_letterAt_J45 C hR  h
set_option maxRecDepth 20000 in
theorem w_X7_readWord_J113 {Y : YT} {X : CX} (C : Cx Y X cX7_readWord 3 RX7 2) {Q : Mem → Prop} (hR : Rt Y X none (PQv Y Q)) {v1 : Int} {k89 : Int → Mem → Prop} (hk89 : ∀ (v1 : Int)  (M : Mem), k89 v1 M → G Y X 3 89 [(0, vR Y 1), (1, vI v1)] ([]) M) {M : Mem}  (h : m_X7_readWord_J113 k89 Q v1 M) : G Y X 3 113 [(0, vR Y 1), (1, vI v1)] ([]) M := by
  unfold m_X7_readWord_J113 at h
  refine g_iinc (q := 1) (v := v1 + 1) (lv' := [(1, vI (v1 + 1)), (0, vR Y 1)]) C dX7_readWord_113 rfl rfl (by decide) rfl ?_
  refine g_goto (tgt := 89) C dX7_readWord_116 (by decide) ?_
  refine G.sub [1, 0] rfl ?_
  exact hk89 _ _ h
set_option maxRecDepth 20000 in
theorem w_X7_readWord_L89 {Y : YT} {X : CX} (C : Cx Y X cX7_readWord 3 RX7 2) {Q : Mem → Prop} (hR : Rt Y X none (PQv Y Q))   : ∀ (f : Nat) (v1 : Int) (M : Mem), m_X7_readWord_L89  Q f v1 M → G Y X 3 89 [(0, vR Y 1), (1, vI v1)] ([]) M := by
  intro f
  induction f with
  | zero =>
    intro v1 M h
    exact (show False from h).elim
  | succ f ih =>
    intro v1 M h
    unfold m_X7_readWord_L89 at h
    refine g_iload_n (q := 1) C dX7_readWord_89 rfl rfl ?_
    refine g_bipush (v := 24) C dX7_readWord_90 (by decide +kernel) ?_
    obtain ⟨g1, h⟩ := h
    obtain ⟨ht, hf⟩ := h
    refine g_icmp_ge (tgt := 119) C dX7_readWord_92 (by decide) g1 (by decide) (fun c => ?_) (fun c => ?_)
    · have h := ht c
      exact g_retv C hR dX7_readWord_119 h
    · have h := hf c
      refine g_aload_n (q := 0) C dX7_readWord_95 rfl rfl ?_
      refine g_getS (v := 3) C fX7_19 dX7_readWord_96 kd_1 rfl ?_
      refine g_iload_n (q := 1) C dX7_readWord_99 rfl rfl ?_
      obtain ⟨g2, h⟩ := h
      refine g_iald C dX7_readWord_100 kd_3 ln_3 g2 ?_
      refine g_aload_n (q := 0) C dX7_readWord_101 rfl rfl ?_
      refine g_getI C fX7_70 (by decide) dX7_readWord_102 kd_1 ?_
      obtain ⟨g3, h⟩ := h
      obtain ⟨g4, h⟩ := h
      obtain ⟨ht, hf⟩ := h
      refine g_icmp_ne (tgt := 113) C dX7_readWord_105 (by decide) g3 g4 (fun c => ?_) (fun c => ?_)
      · have h := hf c
        refine G.sub [0, 1] rfl ?_
        exact w_X7_readWord_J113 C hR (ih)  h
      · have h := ht c
        refine g_aload_n (q := 0) C dX7_readWord_108 rfl rfl ?_
        refine g_iload_n (q := 1) C dX7_readWord_109 rfl rfl ?_
        obtain ⟨M5, e_M5⟩ : ∃ z : Mem, z = up M 1 5 v1 := ⟨_, rfl⟩
        have h := h M5 e_M5
        refine g_putI C fX7_55 pX7_55 dX7_readWord_110 kd_1 e_M5 ?_
        refine G.sub [0, 1] rfl ?_
        exact w_X7_readWord_J113 C hR (ih)  h
set_option maxRecDepth 20000 in
theorem w_X7_readWord_J87 {Y : YT} {X : CX} (C : Cx Y X cX7_readWord 3 RX7 2) {Q : Mem → Prop} (hR : Rt Y X none (PQv Y Q))   {M : Mem}  (h : m_X7_readWord_J87  Q  M) : G Y X 3 87 [(0, vR Y 1)] ([]) M := by
  unfold m_X7_readWord_J87 at h
  refine g_iconst C dX7_readWord_87 rfl ?_
  refine g_istore_n (lv' := [(1, vI 0), (0, vR Y 1)]) C dX7_readWord_88 rfl (by decide) rfl ?_
  obtain ⟨f0, h⟩ := h
  refine G.sub [1, 0] rfl ?_
  exact w_X7_readWord_L89 C hR  f0 _ _ h
set_option maxRecDepth 20000 in
theorem w_X7_readWord_J53 {Y : YT} {X : CX} (C : Cx Y X cX7_readWord 3 RX7 2) {Q : Mem → Prop} (hR : Rt Y X none (PQv Y Q)) {v1 : Int} {s1 : Int} {s2 : Int} {k12 : Int → Mem → Prop} (hk12 : ∀ (v1 : Int)  (M : Mem), k12 v1 M → G Y X 3 12 [(0, vR Y 1), (1, vI v1)] ([]) M) {M : Mem}  (h : m_X7_readWord_J53 k12 Q v1 s1 s2 M) : G Y X 3 53 [(0, vR Y 1), (1, vI v1)] ((vI s2) :: (vI s1) :: (vR Y 1) :: []) M := by
  unfold m_X7_readWord_J53 at h
  refine g_iadd C dX7_readWord_53 ?_
  obtain ⟨M6, e_M6⟩ : ∃ z : Mem, z = up M 1 9 (s1 + s2) := ⟨_, rfl⟩
  have h := h M6 e_M6
  refine g_putI C fX7_40 pX7_40 dX7_readWord_54 kd_1 e_M6 ?_
  refine g_iinc (q := 1) (v := v1 + 1) (lv' := [(1, vI (v1 + 1)), (0, vR Y 1)]) C dX7_readWord_57 rfl rfl (by decide) rfl ?_
  refine g_goto (tgt := 12) C dX7_readWord_60 (by decide) ?_
  refine G.sub [1, 0] rfl ?_
  exact hk12 _ _ h
set_option maxRecDepth 20000 in
theorem w_X7_readWord_L12 {Y : YT} {X : CX} (C : Cx Y X cX7_readWord 3 RX7 2) {Q : Mem → Prop} (hR : Rt Y X none (PQv Y Q))   : ∀ (f : Nat) (v1 : Int) (M : Mem), m_X7_readWord_L12  Q f v1 M → G Y X 3 12 [(0, vR Y 1), (1, vI v1)] ([]) M := by
  intro f
  induction f with
  | zero =>
    intro v1 M h
    exact (show False from h).elim
  | succ f ih =>
    intro v1 M h
    unfold m_X7_readWord_L12 at h
    refine g_iload_n (q := 1) C dX7_readWord_12 rfl rfl ?_
    refine g_bipush (v := 6) C dX7_readWord_13 (by decide +kernel) ?_
    obtain ⟨g7, h⟩ := h
    obtain ⟨ht, hf⟩ := h
    refine g_icmp_ge (tgt := 63) C dX7_readWord_15 (by decide) g7 (by decide) (fun c => ?_) (fun c => ?_)
    · have h := ht c
      refine g_aload_n (q := 0) C dX7_readWord_63 rfl rfl ?_
      refine g_aload_n (q := 0) C dX7_readWord_64 rfl rfl ?_
      refine g_getI C fX7_40 (by decide) dX7_readWord_65 kd_1 ?_
      refine g_cVi (As := [vI (M 1 9)]) C clX7_58 clvX7_letterAt dX7_readWord_68 kd_1 rfl (Nat.le_of_ble_eq_true rfl) rfl (by decide) (t_X7_letterAt (Cx.ok C) h) (fun r9 M8 h => ?_)
      obtain ⟨g10, h⟩ := h
      obtain ⟨ht, hf⟩ := h
      refine g_if_le (tgt := 87) C dX7_readWord_71 (by decide) g10 (fun c => ?_) (fun c => ?_)
      · have h := ht c
        refine G.sub [0] rfl ?_
        exact w_X7_readWord_J87 C hR  h
      · have h := hf c
        refine g_aload_n (q := 0) C dX7_readWord_74 rfl rfl ?_
        refine g_iconst C dX7_readWord_75 rfl ?_
        obtain ⟨M11, e_M11⟩ : ∃ z : Mem, z = up M8 1 2 4 := ⟨_, rfl⟩
        have h := h M11 e_M11
        refine g_putI C fX7_43 pX7_43 dX7_readWord_76 kd_1 e_M11 ?_
        refine g_aload_n (q := 0) C dX7_readWord_79 rfl rfl ?_
        refine g_aload_n (q := 0) C dX7_readWord_80 rfl rfl ?_
        refine g_getI C fX7_40 (by decide) dX7_readWord_81 kd_1 ?_
        obtain ⟨M12, e_M12⟩ : ∃ z : Mem, z = up M11 1 10 (M11 1 9) := ⟨_, rfl⟩
        have h := h M12 e_M12
        refine g_putI C fX7_52 pX7_52 dX7_readWord_84 kd_1 e_M12 ?_
        refine G.sub [0] rfl ?_
        exact w_X7_readWord_J87 C hR  h
    · have h := hf c
      refine g_aload_n (q := 0) C dX7_readWord_18 rfl rfl ?_
      refine g_aload_n (q := 0) C dX7_readWord_19 rfl rfl ?_
      refine g_getI C fX7_40 (by decide) dX7_readWord_20 kd_1 ?_
      refine g_cVi (As := [vI (M 1 9)]) C clX7_58 clvX7_letterAt dX7_readWord_23 kd_1 rfl (Nat.le_of_ble_eq_true rfl) rfl (by decide) (t_X7_letterAt (Cx.ok C) h) (fun r14 M13 h => ?_)
      refine g_istore_n (lv' := [(2, vI r14), (0, vR Y 1), (1, vI v1)]) C dX7_readWord_26 rfl (by decide) rfl ?_
      refine g_aload_n (q := 1) C dX7_readWord_27 rfl rfl ?_
      refine g_aload_n (q := 1) C dX7_readWord_28 rfl rfl ?_
      refine g_getI C fX7_70 (by decide) dX7_readWord_29 kd_1 ?_
      refine g_iconst C dX7_readWord_32 rfl ?_
      refine g_ishl C dX7_readWord_33 ?_
      refine g_iload_n (q := 0) C dX7_readWord_34 rfl rfl ?_
      refine g_ior C dX7_readWord_35 ?_
      obtain ⟨M15, e_M15⟩ : ∃ z : Mem, z = up M13 1 4 (zor (zshl (M13 1 4) 5) r14) := ⟨_, rfl⟩
      have h := h M15 e_M15
      refine g_putI C fX7_70 pX7_70 dX7_readWord_36 kd_1 e_M15 ?_
      refine g_aload_n (q := 1) C dX7_readWord_39 rfl rfl ?_
      refine g_dup C dX7_readWord_40 rfl ?_
      refine g_getI C fX7_40 (by decide) dX7_readWord_41 kd_1 ?_
      refine g_iload_n (q := 0) C dX7_readWord_44 rfl rfl ?_
      obtain ⟨g16, h⟩ := h
      obtain ⟨ht, hf⟩ := h
      refine g_if_le (tgt := 52) C dX7_readWord_45 (by decide) g16 (fun c => ?_) (fun c => ?_)
      · have h := ht c
        refine g_iconst C dX7_readWord_52 rfl ?_
        refine G.sub [1, 2] rfl ?_
        exact w_X7_readWord_J53 C hR (ih)  h
      · have h := hf c
        refine g_iconst C dX7_readWord_48 rfl ?_
        refine g_goto (tgt := 53) C dX7_readWord_49 (by decide) ?_
        refine G.sub [1, 2] rfl ?_
        exact w_X7_readWord_J53 C hR (ih)  h
set_option maxRecDepth 20000 in
theorem t_X7_readWord {l : Launch} {Y : YT} (hY : YOK Y) {M : Mem} {Q : Mem → Prop} (h : m_X7_readWord  M Q) : Ctr l Y yX7_readWord cX7_readWord 3 none 2 [vR Y 1] M (PQv Y Q) := by
  unfold m_X7_readWord at h
  refine ctr_ofF hY (by decide +kernel) (Nat.le_of_ble_eq_true rfl) [(0, vR Y 1)] rfl (fun X hX C hR => ?_)
  refine g_aload_n (q := 0) C dX7_readWord_0 rfl rfl ?_
  refine g_iconst C dX7_readWord_1 rfl ?_
  obtain ⟨M17, e_M17⟩ : ∃ z : Mem, z = up M 1 2 1 := ⟨_, rfl⟩
  have h := h M17 e_M17
  refine g_putI C fX7_43 pX7_43 dX7_readWord_2 kd_1 e_M17 ?_
  refine g_aload_n (q := 0) C dX7_readWord_5 rfl rfl ?_
  refine g_iconst C dX7_readWord_6 rfl ?_
  obtain ⟨M18, e_M18⟩ : ∃ z : Mem, z = up M17 1 4 0 := ⟨_, rfl⟩
  have h := h M18 e_M18
  refine g_putI C fX7_70 pX7_70 dX7_readWord_7 kd_1 e_M18 ?_
  refine g_iconst C dX7_readWord_10 rfl ?_
  refine g_istore_n (lv' := [(1, vI 0), (0, vR Y 1)]) C dX7_readWord_11 rfl (by decide) rfl ?_
  obtain ⟨f0, h⟩ := h
  refine G.sub [1, 0] rfl ?_
  exact w_X7_readWord_L12 C hR  f0 _ _ h
