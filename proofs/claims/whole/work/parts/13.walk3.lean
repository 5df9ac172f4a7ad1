theorem dX3_forget_0 : decode cX3_forget 0 = .ok (.aload_n 0, 1) := by decide +kernel
theorem dX3_forget_1 : decode cX3_forget 1 = .ok (.iconst 0, 1) := by decide +kernel
theorem dX3_forget_2 : decode cX3_forget 2 = .ok (.putfield 22, 3) := by decide +kernel
theorem dX3_forget_5 : decode cX3_forget 5 = .ok (.return_, 1) := by decide +kernel
theorem dX5_copy_0 : decode cX5_copy 0 = .ok (.aload_n 0, 1) := by decide +kernel
theorem dX5_copy_1 : decode cX5_copy 1 = .ok (.aload_n 1, 1) := by decide +kernel
theorem dX5_copy_2 : decode cX5_copy 2 = .ok (.getfield 21, 3) := by decide +kernel
theorem dX5_copy_5 : decode cX5_copy 5 = .ok (.putfield 21, 3) := by decide +kernel
theorem dX5_copy_8 : decode cX5_copy 8 = .ok (.aload_n 1, 1) := by decide +kernel
theorem dX5_copy_9 : decode cX5_copy 9 = .ok (.getfield 9, 3) := by decide +kernel
theorem dX5_copy_12 : decode cX5_copy 12 = .ok (.iconst 0, 1) := by decide +kernel
theorem dX5_copy_13 : decode cX5_copy 13 = .ok (.aload_n 0, 1) := by decide +kernel
theorem dX5_copy_14 : decode cX5_copy 14 = .ok (.getfield 9, 3) := by decide +kernel
theorem dX5_copy_17 : decode cX5_copy 17 = .ok (.iconst 0, 1) := by decide +kernel
theorem dX5_copy_18 : decode cX5_copy 18 = .ok (.aload_n 0, 1) := by decide +kernel
theorem dX5_copy_19 : decode cX5_copy 19 = .ok (.getfield 21, 3) := by decide +kernel
theorem dX5_copy_22 : decode cX5_copy 22 = .ok (.invokestatic 34, 3) := by decide +kernel
theorem dX5_copy_25 : decode cX5_copy 25 = .ok (.aload_n 1, 1) := by decide +kernel
theorem dX5_copy_26 : decode cX5_copy 26 = .ok (.getfield 15, 3) := by decide +kernel
theorem dX5_copy_29 : decode cX5_copy 29 = .ok (.iconst 0, 1) := by decide +kernel
theorem dX5_copy_30 : decode cX5_copy 30 = .ok (.aload_n 0, 1) := by decide +kernel
theorem dX5_copy_31 : decode cX5_copy 31 = .ok (.getfield 15, 3) := by decide +kernel
theorem dX5_copy_34 : decode cX5_copy 34 = .ok (.iconst 0, 1) := by decide +kernel
theorem dX5_copy_35 : decode cX5_copy 35 = .ok (.aload_n 0, 1) := by decide +kernel
theorem dX5_copy_36 : decode cX5_copy 36 = .ok (.getfield 21, 3) := by decide +kernel
theorem dX5_copy_39 : decode cX5_copy 39 = .ok (.invokestatic 34, 3) := by decide +kernel
theorem dX5_copy_42 : decode cX5_copy 42 = .ok (.aload_n 1, 1) := by decide +kernel
theorem dX5_copy_43 : decode cX5_copy 43 = .ok (.getfield 18, 3) := by decide +kernel
theorem dX5_copy_46 : decode cX5_copy 46 = .ok (.iconst 0, 1) := by decide +kernel
theorem dX5_copy_47 : decode cX5_copy 47 = .ok (.aload_n 0, 1) := by decide +kernel
theorem dX5_copy_48 : decode cX5_copy 48 = .ok (.getfield 18, 3) := by decide +kernel
theorem dX5_copy_51 : decode cX5_copy 51 = .ok (.iconst 0, 1) := by decide +kernel
theorem dX5_copy_52 : decode cX5_copy 52 = .ok (.aload_n 0, 1) := by decide +kernel
theorem dX5_copy_53 : decode cX5_copy 53 = .ok (.getfield 21, 3) := by decide +kernel
theorem dX5_copy_56 : decode cX5_copy 56 = .ok (.invokestatic 34, 3) := by decide +kernel
theorem dX5_copy_59 : decode cX5_copy 59 = .ok (.return_, 1) := by decide +kernel
theorem dX6_copy_0 : decode cX6_copy 0 = .ok (.aload_n 0, 1) := by decide +kernel
theorem dX6_copy_1 : decode cX6_copy 1 = .ok (.aload_n 1, 1) := by decide +kernel
theorem dX6_copy_2 : decode cX6_copy 2 = .ok (.getfield 22, 3) := by decide +kernel
theorem dX6_copy_5 : decode cX6_copy 5 = .ok (.putfield 22, 3) := by decide +kernel
theorem dX6_copy_8 : decode cX6_copy 8 = .ok (.aload_n 1, 1) := by decide +kernel
theorem dX6_copy_9 : decode cX6_copy 9 = .ok (.getfield 9, 3) := by decide +kernel
theorem dX6_copy_12 : decode cX6_copy 12 = .ok (.iconst 0, 1) := by decide +kernel
theorem dX6_copy_13 : decode cX6_copy 13 = .ok (.aload_n 0, 1) := by decide +kernel
theorem dX6_copy_14 : decode cX6_copy 14 = .ok (.getfield 9, 3) := by decide +kernel
theorem dX6_copy_17 : decode cX6_copy 17 = .ok (.iconst 0, 1) := by decide +kernel
theorem dX6_copy_18 : decode cX6_copy 18 = .ok (.bipush 6, 2) := by decide +kernel
theorem dX6_copy_20 : decode cX6_copy 20 = .ok (.invokestatic 31, 3) := by decide +kernel
theorem dX6_copy_23 : decode cX6_copy 23 = .ok (.aload_n 0, 1) := by decide +kernel
theorem dX6_copy_24 : decode cX6_copy 24 = .ok (.aload_n 1, 1) := by decide +kernel
theorem dX6_copy_25 : decode cX6_copy 25 = .ok (.getfield 40, 3) := by decide +kernel
theorem dX6_copy_28 : decode cX6_copy 28 = .ok (.putfield 40, 3) := by decide +kernel
theorem dX6_copy_31 : decode cX6_copy 31 = .ok (.aload_n 0, 1) := by decide +kernel
theorem dX6_copy_32 : decode cX6_copy 32 = .ok (.getfield 18, 3) := by decide +kernel
theorem dX6_copy_35 : decode cX6_copy 35 = .ok (.aload_n 1, 1) := by decide +kernel
theorem dX6_copy_36 : decode cX6_copy 36 = .ok (.getfield 18, 3) := by decide +kernel
theorem dX6_copy_39 : decode cX6_copy 39 = .ok (.invokevirtual 42, 3) := by decide +kernel
theorem dX6_copy_42 : decode cX6_copy 42 = .ok (.aload_n 0, 1) := by decide +kernel
theorem dX6_copy_43 : decode cX6_copy 43 = .ok (.aload_n 1, 1) := by decide +kernel
theorem dX6_copy_44 : decode cX6_copy 44 = .ok (.getfield 46, 3) := by decide +kernel
theorem dX6_copy_47 : decode cX6_copy 47 = .ok (.putfield 46, 3) := by decide +kernel
theorem dX6_copy_50 : decode cX6_copy 50 = .ok (.return_, 1) := by decide +kernel
theorem dX3_remember_0 : decode cX3_remember 0 = .ok (.aload_n 0, 1) := by decide +kernel
theorem dX3_remember_1 : decode cX3_remember 1 = .ok (.aload_n 0, 1) := by decide +kernel
theorem dX3_remember_2 : decode cX3_remember 2 = .ok (.getfield 26, 3) := by decide +kernel
theorem dX3_remember_5 : decode cX3_remember 5 = .ok (.iconst 1, 1) := by decide +kernel
theorem dX3_remember_6 : decode cX3_remember 6 = .ok (.iadd, 1) := by decide +kernel
theorem dX3_remember_7 : decode cX3_remember 7 = .ok (.bipush 20, 2) := by decide +kernel
theorem dX3_remember_9 : decode cX3_remember 9 = .ok (.irem, 1) := by decide +kernel
theorem dX3_remember_10 : decode cX3_remember 10 = .ok (.putfield 26, 3) := by decide +kernel
theorem dX3_remember_13 : decode cX3_remember 13 = .ok (.aload_n 0, 1) := by decide +kernel
theorem dX3_remember_14 : decode cX3_remember 14 = .ok (.getfield 13, 3) := by decide +kernel
theorem dX3_remember_17 : decode cX3_remember 17 = .ok (.aload_n 0, 1) := by decide +kernel
theorem dX3_remember_18 : decode cX3_remember 18 = .ok (.getfield 26, 3) := by decide +kernel
theorem dX3_remember_21 : decode cX3_remember 21 = .ok (.aaload, 1) := by decide +kernel
theorem dX3_remember_22 : decode cX3_remember 22 = .ok (.aload_n 1, 1) := by decide +kernel
theorem dX3_remember_23 : decode cX3_remember 23 = .ok (.invokevirtual 29, 3) := by decide +kernel
theorem dX3_remember_26 : decode cX3_remember 26 = .ok (.aload_n 0, 1) := by decide +kernel
theorem dX3_remember_27 : decode cX3_remember 27 = .ok (.aload_n 0, 1) := by decide +kernel
theorem dX3_remember_28 : decode cX3_remember 28 = .ok (.getfield 22, 3) := by decide +kernel
theorem dX3_remember_31 : decode cX3_remember 31 = .ok (.iconst 1, 1) := by decide +kernel
theorem dX3_remember_32 : decode cX3_remember 32 = .ok (.iadd, 1) := by decide +kernel
theorem dX3_remember_33 : decode cX3_remember 33 = .ok (.bipush 20, 2) := by decide +kernel
theorem dX3_remember_35 : decode cX3_remember 35 = .ok (.invokestatic 33, 3) := by decide +kernel
theorem dX3_remember_38 : decode cX3_remember 38 = .ok (.putfield 22, 3) := by decide +kernel
theorem dX3_remember_41 : decode cX3_remember 41 = .ok (.return_, 1) := by decide +kernel
theorem dX3_bringBack_0 : decode cX3_bringBack 0 = .ok (.aload_n 0, 1) := by decide +kernel
theorem dX3_bringBack_1 : decode cX3_bringBack 1 = .ok (.getfield 22, 3) := by decide +kernel
theorem dX3_bringBack_4 : decode cX3_bringBack 4 = .ok (.ifCond .ne 5, 3) := by decide +kernel
theorem dX3_bringBack_7 : decode cX3_bringBack 7 = .ok (.iconst 0, 1) := by decide +kernel
theorem dX3_bringBack_8 : decode cX3_bringBack 8 = .ok (.ireturn, 1) := by decide +kernel
theorem dX3_bringBack_9 : decode cX3_bringBack 9 = .ok (.aload_n 1, 1) := by decide +kernel
theorem dX3_bringBack_10 : decode cX3_bringBack 10 = .ok (.aload_n 0, 1) := by decide +kernel
theorem dX3_bringBack_11 : decode cX3_bringBack 11 = .ok (.getfield 13, 3) := by decide +kernel
theorem dX3_bringBack_14 : decode cX3_bringBack 14 = .ok (.aload_n 0, 1) := by decide +kernel
theorem dX3_bringBack_15 : decode cX3_bringBack 15 = .ok (.getfield 26, 3) := by decide +kernel
theorem dX3_bringBack_18 : decode cX3_bringBack 18 = .ok (.aaload, 1) := by decide +kernel
theorem dX3_bringBack_19 : decode cX3_bringBack 19 = .ok (.invokevirtual 29, 3) := by decide +kernel
theorem dX3_bringBack_22 : decode cX3_bringBack 22 = .ok (.aload_n 0, 1) := by decide +kernel
theorem dX3_bringBack_23 : decode cX3_bringBack 23 = .ok (.aload_n 0, 1) := by decide +kernel
theorem dX3_bringBack_24 : decode cX3_bringBack 24 = .ok (.getfield 26, 3) := by decide +kernel
theorem dX3_bringBack_27 : decode cX3_bringBack 27 = .ok (.bipush 20, 2) := by decide +kernel
theorem dX3_bringBack_29 : decode cX3_bringBack 29 = .ok (.iadd, 1) := by decide +kernel
theorem dX3_bringBack_30 : decode cX3_bringBack 30 = .ok (.iconst 1, 1) := by decide +kernel
theorem dX3_bringBack_31 : decode cX3_bringBack 31 = .ok (.isub, 1) := by decide +kernel
theorem dX3_bringBack_32 : decode cX3_bringBack 32 = .ok (.bipush 20, 2) := by decide +kernel
theorem dX3_bringBack_34 : decode cX3_bringBack 34 = .ok (.irem, 1) := by decide +kernel
theorem dX3_bringBack_35 : decode cX3_bringBack 35 = .ok (.putfield 26, 3) := by decide +kernel
theorem dX3_bringBack_38 : decode cX3_bringBack 38 = .ok (.aload_n 0, 1) := by decide +kernel
theorem dX3_bringBack_39 : decode cX3_bringBack 39 = .ok (.dup, 1) := by decide +kernel
theorem dX3_bringBack_40 : decode cX3_bringBack 40 = .ok (.getfield 22, 3) := by decide +kernel
theorem dX3_bringBack_43 : decode cX3_bringBack 43 = .ok (.iconst 1, 1) := by decide +kernel
theorem dX3_bringBack_44 : decode cX3_bringBack 44 = .ok (.isub, 1) := by decide +kernel
theorem dX3_bringBack_45 : decode cX3_bringBack 45 = .ok (.putfield 22, 3) := by decide +kernel
theorem dX3_bringBack_48 : decode cX3_bringBack 48 = .ok (.iconst 1, 1) := by decide +kernel
theorem dX3_bringBack_49 : decode cX3_bringBack 49 = .ok (.ireturn, 1) := by decide +kernel
theorem dX3_keep_0 : decode cX3_keep 0 = .ok (.iconst 3, 1) := by decide +kernel
theorem dX3_keep_1 : decode cX3_keep 1 = .ok (.aload_n 1, 1) := by decide +kernel
theorem dX3_keep_2 : decode cX3_keep 2 = .ok (.getfield 39, 3) := by decide +kernel
theorem dX3_keep_5 : decode cX3_keep 5 = .ok (.imul, 1) := by decide +kernel
theorem dX3_keep_6 : decode cX3_keep 6 = .ok (.istore_n 3, 1) := by decide +kernel
theorem dX3_keep_7 : decode cX3_keep 7 = .ok (.aload_n 1, 1) := by decide +kernel
theorem dX3_keep_8 : decode cX3_keep 8 = .ok (.getfield 39, 3) := by decide +kernel
theorem dX3_keep_11 : decode cX3_keep 11 = .ok (.sipush 999, 3) := by decide +kernel
theorem dX3_keep_14 : decode cX3_keep 14 = .ok (.if_icmp .lt 4, 3) := by decide +kernel
theorem dX3_keep_17 : decode cX3_keep 17 = .ok (.return_, 1) := by decide +kernel
theorem dX3_keep_18 : decode cX3_keep 18 = .ok (.aload_n 0, 1) := by decide +kernel
theorem dX3_keep_19 : decode cX3_keep 19 = .ok (.getfield 17, 3) := by decide +kernel
theorem dX3_keep_22 : decode cX3_keep 22 = .ok (.iload_n 3, 1) := by decide +kernel
theorem dX3_keep_23 : decode cX3_keep 23 = .ok (.aload_n 1, 1) := by decide +kernel
theorem dX3_keep_24 : decode cX3_keep 24 = .ok (.getfield 42, 3) := by decide +kernel
theorem dX3_keep_27 : decode cX3_keep 27 = .ok (.iastore, 1) := by decide +kernel
theorem dX3_keep_28 : decode cX3_keep 28 = .ok (.aload_n 0, 1) := by decide +kernel
theorem dX3_keep_29 : decode cX3_keep 29 = .ok (.getfield 17, 3) := by decide +kernel
theorem dX3_keep_32 : decode cX3_keep 32 = .ok (.iload_n 3, 1) := by decide +kernel
theorem dX3_keep_33 : decode cX3_keep 33 = .ok (.iconst 1, 1) := by decide +kernel
theorem dX3_keep_34 : decode cX3_keep 34 = .ok (.iadd, 1) := by decide +kernel
theorem dX3_keep_35 : decode cX3_keep 35 = .ok (.aload_n 1, 1) := by decide +kernel
theorem dX3_keep_36 : decode cX3_keep 36 = .ok (.getfield 45, 3) := by decide +kernel
theorem dX3_keep_39 : decode cX3_keep 39 = .ok (.getfield 49, 3) := by decide +kernel
theorem dX3_keep_42 : decode cX3_keep 42 = .ok (.iastore, 1) := by decide +kernel
theorem dX3_keep_43 : decode cX3_keep 43 = .ok (.aload_n 0, 1) := by decide +kernel
theorem dX3_keep_44 : decode cX3_keep 44 = .ok (.getfield 17, 3) := by decide +kernel
theorem dX3_keep_47 : decode cX3_keep 47 = .ok (.iload_n 3, 1) := by decide +kernel
theorem dX3_keep_48 : decode cX3_keep 48 = .ok (.iconst 2, 1) := by decide +kernel
theorem dX3_keep_49 : decode cX3_keep 49 = .ok (.iadd, 1) := by decide +kernel
theorem dX3_keep_50 : decode cX3_keep 50 = .ok (.iload_n 2, 1) := by decide +kernel
theorem dX3_keep_51 : decode cX3_keep 51 = .ok (.iastore, 1) := by decide +kernel
theorem dX3_keep_52 : decode cX3_keep 52 = .ok (.aload_n 1, 1) := by decide +kernel
theorem dX3_keep_53 : decode cX3_keep 53 = .ok (.dup, 1) := by decide +kernel
theorem dX3_keep_54 : decode cX3_keep 54 = .ok (.getfield 39, 3) := by decide +kernel
theorem dX3_keep_57 : decode cX3_keep 57 = .ok (.iconst 1, 1) := by decide +kernel
theorem dX3_keep_58 : decode cX3_keep 58 = .ok (.iadd, 1) := by decide +kernel
theorem dX3_keep_59 : decode cX3_keep 59 = .ok (.putfield 39, 3) := by decide +kernel
theorem dX3_keep_62 : decode cX3_keep 62 = .ok (.return_, 1) := by decide +kernel
theorem dX3_keptOf_0 : decode cX3_keptOf 0 = .ok (.aload_n 0, 1) := by decide +kernel
theorem dX3_keptOf_1 : decode cX3_keptOf 1 = .ok (.getfield 17, 3) := by decide +kernel
theorem dX3_keptOf_4 : decode cX3_keptOf 4 = .ok (.iconst 3, 1) := by decide +kernel
theorem dX3_keptOf_5 : decode cX3_keptOf 5 = .ok (.iload_n 1, 1) := by decide +kernel
theorem dX3_keptOf_6 : decode cX3_keptOf 6 = .ok (.imul, 1) := by decide +kernel
theorem dX3_keptOf_7 : decode cX3_keptOf 7 = .ok (.iload_n 2, 1) := by decide +kernel
theorem dX3_keptOf_8 : decode cX3_keptOf 8 = .ok (.iadd, 1) := by decide +kernel
theorem dX3_keptOf_9 : decode cX3_keptOf 9 = .ok (.iaload, 1) := by decide +kernel
theorem dX3_keptOf_10 : decode cX3_keptOf 10 = .ok (.ireturn, 1) := by decide +kernel
theorem dX4_add_0 : decode cX4_add 0 = .ok (.aload_n 0, 1) := by decide +kernel
theorem dX4_add_1 : decode cX4_add 1 = .ok (.getfield 15, 3) := by decide +kernel
theorem dX4_add_4 : decode cX4_add 4 = .ok (.bipush 40, 2) := by decide +kernel
theorem dX4_add_6 : decode cX4_add 6 = .ok (.if_icmp .ge 23, 3) := by decide +kernel
theorem dX4_add_9 : decode cX4_add 9 = .ok (.aload_n 0, 1) := by decide +kernel
theorem dX4_add_10 : decode cX4_add 10 = .ok (.getfield 11, 3) := by decide +kernel
theorem dX4_add_13 : decode cX4_add 13 = .ok (.aload_n 0, 1) := by decide +kernel
theorem dX4_add_14 : decode cX4_add 14 = .ok (.getfield 15, 3) := by decide +kernel
theorem dX4_add_17 : decode cX4_add 17 = .ok (.iload_n 1, 1) := by decide +kernel
theorem dX4_add_18 : decode cX4_add 18 = .ok (.iastore, 1) := by decide +kernel
theorem dX4_add_19 : decode cX4_add 19 = .ok (.aload_n 0, 1) := by decide +kernel
theorem dX4_add_20 : decode cX4_add 20 = .ok (.dup, 1) := by decide +kernel
theorem dX4_add_21 : decode cX4_add 21 = .ok (.getfield 15, 3) := by decide +kernel
theorem dX4_add_24 : decode cX4_add 24 = .ok (.iconst 1, 1) := by decide +kernel
theorem dX4_add_25 : decode cX4_add 25 = .ok (.iadd, 1) := by decide +kernel
theorem dX4_add_26 : decode cX4_add 26 = .ok (.putfield 15, 3) := by decide +kernel
theorem dX4_add_29 : decode cX4_add 29 = .ok (.return_, 1) := by decide +kernel
theorem dX6_watches_0 : decode cX6_watches 0 = .ok (.aload_n 0, 1) := by decide +kernel
theorem dX6_watches_1 : decode cX6_watches 1 = .ok (.getfield 40, 3) := by decide +kernel
theorem dX6_watches_4 : decode cX6_watches 4 = .ok (.iload_n 1, 1) := by decide +kernel
theorem dX6_watches_5 : decode cX6_watches 5 = .ok (.ishr, 1) := by decide +kernel
theorem dX6_watches_6 : decode cX6_watches 6 = .ok (.iconst 1, 1) := by decide +kernel
theorem dX6_watches_7 : decode cX6_watches 7 = .ok (.iand, 1) := by decide +kernel
theorem dX6_watches_8 : decode cX6_watches 8 = .ok (.iconst 1, 1) := by decide +kernel
theorem dX6_watches_9 : decode cX6_watches 9 = .ok (.if_icmp .ne 7, 3) := by decide +kernel
theorem dX6_watches_12 : decode cX6_watches 12 = .ok (.iconst 1, 1) := by decide +kernel
theorem dX6_watches_13 : decode cX6_watches 13 = .ok (.goto 4, 3) := by decide +kernel
theorem dX6_watches_16 : decode cX6_watches 16 = .ok (.iconst 0, 1) := by decide +kernel
theorem dX6_watches_17 : decode cX6_watches 17 = .ok (.ireturn, 1) := by decide +kernel
theorem dX4_proof_0 : decode cX4_proof 0 = .ok (.sipush 193, 3) := by decide +kernel
theorem dX4_proof_3 : decode cX4_proof 3 = .ok (.istore_n 2, 1) := by decide +kernel
theorem dX4_proof_4 : decode cX4_proof 4 = .ok (.iconst 0, 1) := by decide +kernel
theorem dX4_proof_5 : decode cX4_proof 5 = .ok (.istore_n 3, 1) := by decide +kernel
theorem dX4_proof_6 : decode cX4_proof 6 = .ok (.iload_n 3, 1) := by decide +kernel
theorem dX4_proof_7 : decode cX4_proof 7 = .ok (.iload_n 1, 1) := by decide +kernel
theorem dX4_proof_8 : decode cX4_proof 8 = .ok (.if_icmp .ge 21, 3) := by decide +kernel
theorem dX4_proof_11 : decode cX4_proof 11 = .ok (.iconst 5, 1) := by decide +kernel
theorem dX4_proof_12 : decode cX4_proof 12 = .ok (.iload_n 2, 1) := by decide +kernel
theorem dX4_proof_13 : decode cX4_proof 13 = .ok (.imul, 1) := by decide +kernel
theorem dX4_proof_14 : decode cX4_proof 14 = .ok (.aload_n 0, 1) := by decide +kernel
theorem dX4_proof_15 : decode cX4_proof 15 = .ok (.iload_n 3, 1) := by decide +kernel
theorem dX4_proof_16 : decode cX4_proof 16 = .ok (.iaload, 1) := by decide +kernel
theorem dX4_proof_17 : decode cX4_proof 17 = .ok (.iadd, 1) := by decide +kernel
theorem dX4_proof_18 : decode cX4_proof 18 = .ok (.sipush 251, 3) := by decide +kernel
theorem dX4_proof_21 : decode cX4_proof 21 = .ok (.irem, 1) := by decide +kernel
theorem dX4_proof_22 : decode cX4_proof 22 = .ok (.istore_n 2, 1) := by decide +kernel
theorem dX4_proof_23 : decode cX4_proof 23 = .ok (.iinc 3 1, 3) := by decide +kernel
theorem dX4_proof_26 : decode cX4_proof 26 = .ok (.goto (-20), 3) := by decide +kernel
theorem dX4_proof_29 : decode cX4_proof 29 = .ok (.iload_n 2, 1) := by decide +kernel
theorem dX4_proof_30 : decode cX4_proof 30 = .ok (.ireturn, 1) := by decide +kernel
theorem dX4_write_0 : decode cX4_write 0 = .ok (.aload_n 0, 1) := by decide +kernel
theorem dX4_write_1 : decode cX4_write 1 = .ok (.iconst 0, 1) := by decide +kernel
theorem dX4_write_2 : decode cX4_write 2 = .ok (.putfield 15, 3) := by decide +kernel
theorem dX4_write_5 : decode cX4_write 5 = .ok (.aload_n 0, 1) := by decide +kernel
theorem dX4_write_6 : decode cX4_write 6 = .ok (.aload_n 2, 1) := by decide +kernel
theorem dX4_write_7 : decode cX4_write 7 = .ok (.getfield 19, 3) := by decide +kernel
theorem dX4_write_10 : decode cX4_write 10 = .ok (.sipush 256, 3) := by decide +kernel
theorem dX4_write_13 : decode cX4_write 13 = .ok (.idiv, 1) := by decide +kernel
theorem dX4_write_14 : decode cX4_write 14 = .ok (.invokevirtual 24, 3) := by decide +kernel
theorem dX4_write_17 : decode cX4_write 17 = .ok (.aload_n 0, 1) := by decide +kernel
theorem dX4_write_18 : decode cX4_write 18 = .ok (.aload_n 2, 1) := by decide +kernel
theorem dX4_write_19 : decode cX4_write 19 = .ok (.getfield 19, 3) := by decide +kernel
theorem dX4_write_22 : decode cX4_write 22 = .ok (.sipush 256, 3) := by decide +kernel
theorem dX4_write_25 : decode cX4_write 25 = .ok (.irem, 1) := by decide +kernel
theorem dX4_write_26 : decode cX4_write 26 = .ok (.invokevirtual 24, 3) := by decide +kernel
theorem dX4_write_29 : decode cX4_write 29 = .ok (.iconst 0, 1) := by decide +kernel
theorem dX4_write_30 : decode cX4_write 30 = .ok (.istore_n 3, 1) := by decide +kernel
theorem dX4_write_31 : decode cX4_write 31 = .ok (.iload_n 3, 1) := by decide +kernel
theorem dX4_write_32 : decode cX4_write 32 = .ok (.aload_n 1, 1) := by decide +kernel
theorem dX4_write_33 : decode cX4_write 33 = .ok (.getfield 28, 3) := by decide +kernel
theorem dX4_write_36 : decode cX4_write 36 = .ok (.if_icmp .ge 36, 3) := by decide +kernel
theorem dX4_write_39 : decode cX4_write 39 = .ok (.aload_n 0, 1) := by decide +kernel
theorem dX4_write_40 : decode cX4_write 40 = .ok (.aload_n 2, 1) := by decide +kernel
theorem dX4_write_41 : decode cX4_write 41 = .ok (.getfield 33, 3) := by decide +kernel
theorem dX4_write_44 : decode cX4_write 44 = .ok (.iload_n 3, 1) := by decide +kernel
theorem dX4_write_45 : decode cX4_write 45 = .ok (.iaload, 1) := by decide +kernel
theorem dX4_write_46 : decode cX4_write 46 = .ok (.invokevirtual 24, 3) := by decide +kernel
theorem dX4_write_49 : decode cX4_write 49 = .ok (.aload_n 0, 1) := by decide +kernel
theorem dX4_write_50 : decode cX4_write 50 = .ok (.aload_n 2, 1) := by decide +kernel
theorem dX4_write_51 : decode cX4_write 51 = .ok (.iload_n 3, 1) := by decide +kernel
theorem dX4_write_52 : decode cX4_write 52 = .ok (.invokevirtual 36, 3) := by decide +kernel
theorem dX4_write_55 : decode cX4_write 55 = .ok (.ifCond .eq 7, 3) := by decide +kernel
theorem dX4_write_58 : decode cX4_write 58 = .ok (.iconst 1, 1) := by decide +kernel
theorem dX4_write_59 : decode cX4_write 59 = .ok (.goto 4, 3) := by decide +kernel
theorem dX4_write_62 : decode cX4_write 62 = .ok (.iconst 0, 1) := by decide +kernel
theorem dX4_write_63 : decode cX4_write 63 = .ok (.invokevirtual 24, 3) := by decide +kernel
theorem dX4_write_66 : decode cX4_write 66 = .ok (.iinc 3 1, 3) := by decide +kernel
theorem dX4_write_69 : decode cX4_write 69 = .ok (.goto (-38), 3) := by decide +kernel
theorem dX4_write_72 : decode cX4_write 72 = .ok (.aload_n 2, 1) := by decide +kernel
theorem dX4_write_73 : decode cX4_write 73 = .ok (.getfield 40, 3) := by decide +kernel
theorem dX4_write_76 : decode cX4_write 76 = .ok (.astore_n 3, 1) := by decide +kernel
theorem dX4_write_77 : decode cX4_write 77 = .ok (.aload_n 0, 1) := by decide +kernel
theorem dX4_write_78 : decode cX4_write 78 = .ok (.aload_n 3, 1) := by decide +kernel
theorem dX4_write_79 : decode cX4_write 79 = .ok (.getfield 44, 3) := by decide +kernel
theorem dX4_write_82 : decode cX4_write 82 = .ok (.invokevirtual 24, 3) := by decide +kernel
theorem dX4_write_85 : decode cX4_write 85 = .ok (.iconst 0, 1) := by decide +kernel
theorem dX4_write_86 : decode cX4_write 86 = .ok (.istore 4, 2) := by decide +kernel
theorem dX4_write_88 : decode cX4_write 88 = .ok (.iload 4, 2) := by decide +kernel
theorem dX4_write_90 : decode cX4_write 90 = .ok (.aload_n 3, 1) := by decide +kernel
theorem dX4_write_91 : decode cX4_write 91 = .ok (.getfield 44, 3) := by decide +kernel
theorem dX4_write_94 : decode cX4_write 94 = .ok (.if_icmp .ge 42, 3) := by decide +kernel
theorem dX4_write_97 : decode cX4_write 97 = .ok (.aload_n 0, 1) := by decide +kernel
theorem dX4_write_98 : decode cX4_write 98 = .ok (.aload_n 3, 1) := by decide +kernel
theorem dX4_write_99 : decode cX4_write 99 = .ok (.getfield 49, 3) := by decide +kernel
theorem dX4_write_102 : decode cX4_write 102 = .ok (.iload 4, 2) := by decide +kernel
theorem dX4_write_104 : decode cX4_write 104 = .ok (.iaload, 1) := by decide +kernel
theorem dX4_write_105 : decode cX4_write 105 = .ok (.invokevirtual 24, 3) := by decide +kernel
theorem dX4_write_108 : decode cX4_write 108 = .ok (.aload_n 0, 1) := by decide +kernel
theorem dX4_write_109 : decode cX4_write 109 = .ok (.aload_n 3, 1) := by decide +kernel
theorem dX4_write_110 : decode cX4_write 110 = .ok (.getfield 52, 3) := by decide +kernel
theorem dX4_write_113 : decode cX4_write 113 = .ok (.iload 4, 2) := by decide +kernel
theorem dX4_write_115 : decode cX4_write 115 = .ok (.iaload, 1) := by decide +kernel
theorem dX4_write_116 : decode cX4_write 116 = .ok (.invokevirtual 24, 3) := by decide +kernel
theorem dX4_write_119 : decode cX4_write 119 = .ok (.aload_n 0, 1) := by decide +kernel
theorem dX4_write_120 : decode cX4_write 120 = .ok (.aload_n 3, 1) := by decide +kernel
theorem dX4_write_121 : decode cX4_write 121 = .ok (.getfield 55, 3) := by decide +kernel
theorem dX4_write_124 : decode cX4_write 124 = .ok (.iload 4, 2) := by decide +kernel
theorem dX4_write_126 : decode cX4_write 126 = .ok (.iaload, 1) := by decide +kernel
theorem dX4_write_127 : decode cX4_write 127 = .ok (.invokevirtual 24, 3) := by decide +kernel
theorem dX4_write_130 : decode cX4_write 130 = .ok (.iinc 4 1, 3) := by decide +kernel
theorem dX4_write_133 : decode cX4_write 133 = .ok (.goto (-45), 3) := by decide +kernel
theorem dX4_write_136 : decode cX4_write 136 = .ok (.aload_n 0, 1) := by decide +kernel
theorem dX4_write_137 : decode cX4_write 137 = .ok (.aload_n 0, 1) := by decide +kernel
theorem dX4_write_138 : decode cX4_write 138 = .ok (.getfield 11, 3) := by decide +kernel
theorem dX4_write_141 : decode cX4_write 141 = .ok (.aload_n 0, 1) := by decide +kernel
theorem dX4_write_142 : decode cX4_write 142 = .ok (.getfield 15, 3) := by decide +kernel
theorem dX4_write_145 : decode cX4_write 145 = .ok (.invokestatic 58, 3) := by decide +kernel
theorem dX4_write_148 : decode cX4_write 148 = .ok (.invokevirtual 24, 3) := by decide +kernel
theorem dX4_write_151 : decode cX4_write 151 = .ok (.return_, 1) := by decide +kernel
theorem dX4_readPeople_0 : decode cX4_readPeople 0 = .ok (.aload_n 2, 1) := by decide +kernel
theorem dX4_readPeople_1 : decode cX4_readPeople 1 = .ok (.iconst 0, 1) := by decide +kernel
theorem dX4_readPeople_2 : decode cX4_readPeople 2 = .ok (.putfield 77, 3) := by decide +kernel
theorem dX4_readPeople_5 : decode cX4_readPeople 5 = .ok (.iconst 0, 1) := by decide +kernel
theorem dX4_readPeople_6 : decode cX4_readPeople 6 = .ok (.istore_n 3, 1) := by decide +kernel
theorem dX4_readPeople_7 : decode cX4_readPeople 7 = .ok (.iload_n 3, 1) := by decide +kernel
theorem dX4_readPeople_8 : decode cX4_readPeople 8 = .ok (.aload_n 1, 1) := by decide +kernel
theorem dX4_readPeople_9 : decode cX4_readPeople 9 = .ok (.getfield 28, 3) := by decide +kernel
theorem dX4_readPeople_12 : decode cX4_readPeople 12 = .ok (.if_icmp .ge 65, 3) := by decide +kernel
theorem dX4_readPeople_15 : decode cX4_readPeople 15 = .ok (.aload_n 0, 1) := by decide +kernel
theorem dX4_readPeople_16 : decode cX4_readPeople 16 = .ok (.iconst 2, 1) := by decide +kernel
theorem dX4_readPeople_17 : decode cX4_readPeople 17 = .ok (.iconst 2, 1) := by decide +kernel
theorem dX4_readPeople_18 : decode cX4_readPeople 18 = .ok (.iload_n 3, 1) := by decide +kernel
theorem dX4_readPeople_19 : decode cX4_readPeople 19 = .ok (.imul, 1) := by decide +kernel
theorem dX4_readPeople_20 : decode cX4_readPeople 20 = .ok (.iadd, 1) := by decide +kernel
theorem dX4_readPeople_21 : decode cX4_readPeople 21 = .ok (.iaload, 1) := by decide +kernel
theorem dX4_readPeople_22 : decode cX4_readPeople 22 = .ok (.istore 4, 2) := by decide +kernel
theorem dX4_readPeople_24 : decode cX4_readPeople 24 = .ok (.aload_n 0, 1) := by decide +kernel
theorem dX4_readPeople_25 : decode cX4_readPeople 25 = .ok (.iconst 3, 1) := by decide +kernel
theorem dX4_readPeople_26 : decode cX4_readPeople 26 = .ok (.iconst 2, 1) := by decide +kernel
theorem dX4_readPeople_27 : decode cX4_readPeople 27 = .ok (.iload_n 3, 1) := by decide +kernel
theorem dX4_readPeople_28 : decode cX4_readPeople 28 = .ok (.imul, 1) := by decide +kernel
theorem dX4_readPeople_29 : decode cX4_readPeople 29 = .ok (.iadd, 1) := by decide +kernel
theorem dX4_readPeople_30 : decode cX4_readPeople 30 = .ok (.iaload, 1) := by decide +kernel
theorem dX4_readPeople_31 : decode cX4_readPeople 31 = .ok (.istore 5, 2) := by decide +kernel
theorem dX4_readPeople_33 : decode cX4_readPeople 33 = .ok (.iload 4, 2) := by decide +kernel
theorem dX4_readPeople_35 : decode cX4_readPeople 35 = .ok (.aload_n 1, 1) := by decide +kernel
theorem dX4_readPeople_36 : decode cX4_readPeople 36 = .ok (.getfield 80, 3) := by decide +kernel
theorem dX4_readPeople_39 : decode cX4_readPeople 39 = .ok (.if_icmp .ge 9, 3) := by decide +kernel
theorem dX4_readPeople_42 : decode cX4_readPeople 42 = .ok (.iload 5, 2) := by decide +kernel
theorem dX4_readPeople_44 : decode cX4_readPeople 44 = .ok (.iconst 1, 1) := by decide +kernel
theorem dX4_readPeople_45 : decode cX4_readPeople 45 = .ok (.if_icmp .le 5, 3) := by decide +kernel
theorem dX4_readPeople_48 : decode cX4_readPeople 48 = .ok (.iconst 0, 1) := by decide +kernel
theorem dX4_readPeople_49 : decode cX4_readPeople 49 = .ok (.ireturn, 1) := by decide +kernel
theorem dX4_readPeople_50 : decode cX4_readPeople 50 = .ok (.aload_n 2, 1) := by decide +kernel
theorem dX4_readPeople_51 : decode cX4_readPeople 51 = .ok (.getfield 33, 3) := by decide +kernel
theorem dX4_readPeople_54 : decode cX4_readPeople 54 = .ok (.iload_n 3, 1) := by decide +kernel
theorem dX4_readPeople_55 : decode cX4_readPeople 55 = .ok (.iload 4, 2) := by decide +kernel
theorem dX4_readPeople_57 : decode cX4_readPeople 57 = .ok (.iastore, 1) := by decide +kernel
theorem dX4_readPeople_58 : decode cX4_readPeople 58 = .ok (.aload_n 2, 1) := by decide +kernel
theorem dX4_readPeople_59 : decode cX4_readPeople 59 = .ok (.dup, 1) := by decide +kernel
theorem dX4_readPeople_60 : decode cX4_readPeople 60 = .ok (.getfield 77, 3) := by decide +kernel
theorem dX4_readPeople_63 : decode cX4_readPeople 63 = .ok (.iload 5, 2) := by decide +kernel
theorem dX4_readPeople_65 : decode cX4_readPeople 65 = .ok (.iload_n 3, 1) := by decide +kernel
theorem dX4_readPeople_66 : decode cX4_readPeople 66 = .ok (.ishl, 1) := by decide +kernel
theorem dX4_readPeople_67 : decode cX4_readPeople 67 = .ok (.ior, 1) := by decide +kernel
theorem dX4_readPeople_68 : decode cX4_readPeople 68 = .ok (.putfield 77, 3) := by decide +kernel
theorem dX4_readPeople_71 : decode cX4_readPeople 71 = .ok (.iinc 3 1, 3) := by decide +kernel
theorem dX4_readPeople_74 : decode cX4_readPeople 74 = .ok (.goto (-67), 3) := by decide +kernel
theorem dX4_readPeople_77 : decode cX4_readPeople 77 = .ok (.iconst 1, 1) := by decide +kernel
theorem dX4_readPeople_78 : decode cX4_readPeople 78 = .ok (.ireturn, 1) := by decide +kernel
theorem dX5_indexOf_0 : decode cX5_indexOf 0 = .ok (.iconst 0, 1) := by decide +kernel
theorem dX5_indexOf_1 : decode cX5_indexOf 1 = .ok (.istore_n 3, 1) := by decide +kernel
theorem dX5_indexOf_2 : decode cX5_indexOf 2 = .ok (.iload_n 3, 1) := by decide +kernel
theorem dX5_indexOf_3 : decode cX5_indexOf 3 = .ok (.aload_n 0, 1) := by decide +kernel
theorem dX5_indexOf_4 : decode cX5_indexOf 4 = .ok (.getfield 21, 3) := by decide +kernel
theorem dX5_indexOf_7 : decode cX5_indexOf 7 = .ok (.if_icmp .ge 31, 3) := by decide +kernel
theorem dX5_indexOf_10 : decode cX5_indexOf 10 = .ok (.aload_n 0, 1) := by decide +kernel
theorem dX5_indexOf_11 : decode cX5_indexOf 11 = .ok (.getfield 9, 3) := by decide +kernel
theorem dX5_indexOf_14 : decode cX5_indexOf 14 = .ok (.iload_n 3, 1) := by decide +kernel
theorem dX5_indexOf_15 : decode cX5_indexOf 15 = .ok (.iaload, 1) := by decide +kernel
theorem dX5_indexOf_16 : decode cX5_indexOf 16 = .ok (.iload_n 1, 1) := by decide +kernel
theorem dX5_indexOf_17 : decode cX5_indexOf 17 = .ok (.if_icmp .ne 15, 3) := by decide +kernel
theorem dX5_indexOf_20 : decode cX5_indexOf 20 = .ok (.aload_n 0, 1) := by decide +kernel
theorem dX5_indexOf_21 : decode cX5_indexOf 21 = .ok (.getfield 15, 3) := by decide +kernel
theorem dX5_indexOf_24 : decode cX5_indexOf 24 = .ok (.iload_n 3, 1) := by decide +kernel
theorem dX5_indexOf_25 : decode cX5_indexOf 25 = .ok (.iaload, 1) := by decide +kernel
theorem dX5_indexOf_26 : decode cX5_indexOf 26 = .ok (.iload_n 2, 1) := by decide +kernel
theorem dX5_indexOf_27 : decode cX5_indexOf 27 = .ok (.if_icmp .ne 5, 3) := by decide +kernel
theorem dX5_indexOf_30 : decode cX5_indexOf 30 = .ok (.iload_n 3, 1) := by decide +kernel
theorem dX5_indexOf_31 : decode cX5_indexOf 31 = .ok (.ireturn, 1) := by decide +kernel
theorem dX5_indexOf_32 : decode cX5_indexOf 32 = .ok (.iinc 3 1, 3) := by decide +kernel
theorem dX5_indexOf_35 : decode cX5_indexOf 35 = .ok (.goto (-33), 3) := by decide +kernel
theorem dX5_indexOf_38 : decode cX5_indexOf 38 = .ok (.iconst (-1), 1) := by decide +kernel
theorem dX5_indexOf_39 : decode cX5_indexOf 39 = .ok (.ireturn, 1) := by decide +kernel
theorem dX5_put_0 : decode cX5_put 0 = .ok (.aload_n 0, 1) := by decide +kernel
theorem dX5_put_1 : decode cX5_put 1 = .ok (.iload_n 1, 1) := by decide +kernel
theorem dX5_put_2 : decode cX5_put 2 = .ok (.iload_n 2, 1) := by decide +kernel
theorem dX5_put_3 : decode cX5_put 3 = .ok (.invokevirtual 25, 3) := by decide +kernel
theorem dX5_put_6 : decode cX5_put 6 = .ok (.istore 4, 2) := by decide +kernel
theorem dX5_put_8 : decode cX5_put 8 = .ok (.iload 4, 2) := by decide +kernel
theorem dX5_put_10 : decode cX5_put 10 = .ok (.iconst (-1), 1) := by decide +kernel
theorem dX5_put_11 : decode cX5_put 11 = .ok (.if_icmp .ne 9, 3) := by decide +kernel
theorem dX5_put_14 : decode cX5_put 14 = .ok (.aload_n 0, 1) := by decide +kernel
theorem dX5_put_15 : decode cX5_put 15 = .ok (.getfield 21, 3) := by decide +kernel
theorem dX5_put_18 : decode cX5_put 18 = .ok (.istore 4, 2) := by decide +kernel
theorem dX5_put_20 : decode cX5_put 20 = .ok (.iload 4, 2) := by decide +kernel
theorem dX5_put_22 : decode cX5_put 22 = .ok (.bipush 8, 2) := by decide +kernel
theorem dX5_put_24 : decode cX5_put 24 = .ok (.if_icmp .le 4, 3) := by decide +kernel
theorem dX5_put_27 : decode cX5_put 27 = .ok (.return_, 1) := by decide +kernel
theorem dX5_put_28 : decode cX5_put 28 = .ok (.aload_n 0, 1) := by decide +kernel
theorem dX5_put_29 : decode cX5_put 29 = .ok (.getfield 9, 3) := by decide +kernel
theorem dX5_put_32 : decode cX5_put 32 = .ok (.iload 4, 2) := by decide +kernel
theorem dX5_put_34 : decode cX5_put 34 = .ok (.iload_n 1, 1) := by decide +kernel
theorem dX5_put_35 : decode cX5_put 35 = .ok (.iastore, 1) := by decide +kernel
theorem dX5_put_36 : decode cX5_put 36 = .ok (.aload_n 0, 1) := by decide +kernel
theorem dX5_put_37 : decode cX5_put 37 = .ok (.getfield 15, 3) := by decide +kernel
theorem dX5_put_40 : decode cX5_put 40 = .ok (.iload 4, 2) := by decide +kernel
theorem dX5_put_42 : decode cX5_put 42 = .ok (.iload_n 2, 1) := by decide +kernel
theorem dX5_put_43 : decode cX5_put 43 = .ok (.iastore, 1) := by decide +kernel
theorem dX5_put_44 : decode cX5_put 44 = .ok (.aload_n 0, 1) := by decide +kernel
theorem dX5_put_45 : decode cX5_put 45 = .ok (.getfield 18, 3) := by decide +kernel
theorem dX5_put_48 : decode cX5_put 48 = .ok (.iload 4, 2) := by decide +kernel
theorem dX5_put_50 : decode cX5_put 50 = .ok (.iload_n 3, 1) := by decide +kernel
theorem dX5_put_51 : decode cX5_put 51 = .ok (.iastore, 1) := by decide +kernel
theorem dX5_put_52 : decode cX5_put 52 = .ok (.aload_n 0, 1) := by decide +kernel
theorem dX5_put_53 : decode cX5_put 53 = .ok (.aload_n 0, 1) := by decide +kernel
theorem dX5_put_54 : decode cX5_put 54 = .ok (.getfield 21, 3) := by decide +kernel
theorem dX5_put_57 : decode cX5_put 57 = .ok (.iload 4, 2) := by decide +kernel
theorem dX5_put_59 : decode cX5_put 59 = .ok (.iconst 1, 1) := by decide +kernel
theorem dX5_put_60 : decode cX5_put 60 = .ok (.iadd, 1) := by decide +kernel
theorem dX5_put_61 : decode cX5_put 61 = .ok (.invokestatic 29, 3) := by decide +kernel
theorem dX5_put_64 : decode cX5_put 64 = .ok (.putfield 21, 3) := by decide +kernel
theorem dX5_put_67 : decode cX5_put 67 = .ok (.return_, 1) := by decide +kernel
theorem dX4_readReel_0 : decode cX4_readReel 0 = .ok (.aload_n 3, 1) := by decide +kernel
theorem dX4_readReel_1 : decode cX4_readReel 1 = .ok (.iconst 0, 1) := by decide +kernel
theorem dX4_readReel_2 : decode cX4_readReel 2 = .ok (.putfield 44, 3) := by decide +kernel
theorem dX4_readReel_5 : decode cX4_readReel 5 = .ok (.aload_n 0, 1) := by decide +kernel
theorem dX4_readReel_6 : decode cX4_readReel 6 = .ok (.iload_n 1, 1) := by decide +kernel
theorem dX4_readReel_7 : decode cX4_readReel 7 = .ok (.iaload, 1) := by decide +kernel
theorem dX4_readReel_8 : decode cX4_readReel 8 = .ok (.bipush 8, 2) := by decide +kernel
theorem dX4_readReel_10 : decode cX4_readReel 10 = .ok (.if_icmp .le 5, 3) := by decide +kernel
theorem dX4_readReel_13 : decode cX4_readReel 13 = .ok (.iconst 0, 1) := by decide +kernel
theorem dX4_readReel_14 : decode cX4_readReel 14 = .ok (.ireturn, 1) := by decide +kernel
theorem dX4_readReel_15 : decode cX4_readReel 15 = .ok (.iconst 0, 1) := by decide +kernel
theorem dX4_readReel_16 : decode cX4_readReel 16 = .ok (.istore 4, 2) := by decide +kernel
theorem dX4_readReel_18 : decode cX4_readReel 18 = .ok (.iload 4, 2) := by decide +kernel
theorem dX4_readReel_20 : decode cX4_readReel 20 = .ok (.aload_n 0, 1) := by decide +kernel
theorem dX4_readReel_21 : decode cX4_readReel 21 = .ok (.iload_n 1, 1) := by decide +kernel
theorem dX4_readReel_22 : decode cX4_readReel 22 = .ok (.iaload, 1) := by decide +kernel
theorem dX4_readReel_23 : decode cX4_readReel 23 = .ok (.if_icmp .ge 93, 3) := by decide +kernel
theorem dX4_readReel_26 : decode cX4_readReel 26 = .ok (.aload_n 0, 1) := by decide +kernel
theorem dX4_readReel_27 : decode cX4_readReel 27 = .ok (.iload_n 1, 1) := by decide +kernel
theorem dX4_readReel_28 : decode cX4_readReel 28 = .ok (.iconst 3, 1) := by decide +kernel
theorem dX4_readReel_29 : decode cX4_readReel 29 = .ok (.iload 4, 2) := by decide +kernel
theorem dX4_readReel_31 : decode cX4_readReel 31 = .ok (.imul, 1) := by decide +kernel
theorem dX4_readReel_32 : decode cX4_readReel 32 = .ok (.iadd, 1) := by decide +kernel
theorem dX4_readReel_33 : decode cX4_readReel 33 = .ok (.iconst 1, 1) := by decide +kernel
theorem dX4_readReel_34 : decode cX4_readReel 34 = .ok (.iadd, 1) := by decide +kernel
theorem dX4_readReel_35 : decode cX4_readReel 35 = .ok (.iaload, 1) := by decide +kernel
theorem dX4_readReel_36 : decode cX4_readReel 36 = .ok (.istore 5, 2) := by decide +kernel
theorem dX4_readReel_38 : decode cX4_readReel 38 = .ok (.aload_n 0, 1) := by decide +kernel
theorem dX4_readReel_39 : decode cX4_readReel 39 = .ok (.iload_n 1, 1) := by decide +kernel
theorem dX4_readReel_40 : decode cX4_readReel 40 = .ok (.iconst 3, 1) := by decide +kernel
theorem dX4_readReel_41 : decode cX4_readReel 41 = .ok (.iload 4, 2) := by decide +kernel
theorem dX4_readReel_43 : decode cX4_readReel 43 = .ok (.imul, 1) := by decide +kernel
theorem dX4_readReel_44 : decode cX4_readReel 44 = .ok (.iadd, 1) := by decide +kernel
theorem dX4_readReel_45 : decode cX4_readReel 45 = .ok (.iconst 2, 1) := by decide +kernel
theorem dX4_readReel_46 : decode cX4_readReel 46 = .ok (.iadd, 1) := by decide +kernel
theorem dX4_readReel_47 : decode cX4_readReel 47 = .ok (.iaload, 1) := by decide +kernel
theorem dX4_readReel_48 : decode cX4_readReel 48 = .ok (.istore 6, 2) := by decide +kernel
theorem dX4_readReel_50 : decode cX4_readReel 50 = .ok (.aload_n 0, 1) := by decide +kernel
theorem dX4_readReel_51 : decode cX4_readReel 51 = .ok (.iload_n 1, 1) := by decide +kernel
theorem dX4_readReel_52 : decode cX4_readReel 52 = .ok (.iconst 3, 1) := by decide +kernel
theorem dX4_readReel_53 : decode cX4_readReel 53 = .ok (.iload 4, 2) := by decide +kernel
theorem dX4_readReel_55 : decode cX4_readReel 55 = .ok (.imul, 1) := by decide +kernel
theorem dX4_readReel_56 : decode cX4_readReel 56 = .ok (.iadd, 1) := by decide +kernel
theorem dX4_readReel_57 : decode cX4_readReel 57 = .ok (.iconst 3, 1) := by decide +kernel
theorem dX4_readReel_58 : decode cX4_readReel 58 = .ok (.iadd, 1) := by decide +kernel
theorem dX4_readReel_59 : decode cX4_readReel 59 = .ok (.iaload, 1) := by decide +kernel
theorem dX4_readReel_60 : decode cX4_readReel 60 = .ok (.istore 7, 2) := by decide +kernel
theorem dX4_readReel_62 : decode cX4_readReel 62 = .ok (.iload 5, 2) := by decide +kernel
theorem dX4_readReel_64 : decode cX4_readReel 64 = .ok (.invokestatic 83, 3) := by decide +kernel
theorem dX4_readReel_67 : decode cX4_readReel 67 = .ok (.ifCond .eq 31, 3) := by decide +kernel
theorem dX4_readReel_70 : decode cX4_readReel 70 = .ok (.iload 6, 2) := by decide +kernel
theorem dX4_readReel_72 : decode cX4_readReel 72 = .ok (.aload_n 2, 1) := by decide +kernel
theorem dX4_readReel_73 : decode cX4_readReel 73 = .ok (.getfield 80, 3) := by decide +kernel
theorem dX4_readReel_76 : decode cX4_readReel 76 = .ok (.if_icmp .ge 22, 3) := by decide +kernel
theorem dX4_readReel_79 : decode cX4_readReel 79 = .ok (.iload 7, 2) := by decide +kernel
theorem dX4_readReel_81 : decode cX4_readReel 81 = .ok (.bipush 6, 2) := by decide +kernel
theorem dX4_readReel_83 : decode cX4_readReel 83 = .ok (.if_icmp .gt 15, 3) := by decide +kernel
theorem dX4_readReel_86 : decode cX4_readReel 86 = .ok (.aload_n 3, 1) := by decide +kernel
theorem dX4_readReel_87 : decode cX4_readReel 87 = .ok (.iload 5, 2) := by decide +kernel
theorem dX4_readReel_89 : decode cX4_readReel 89 = .ok (.iload 6, 2) := by decide +kernel
theorem dX4_readReel_91 : decode cX4_readReel 91 = .ok (.invokevirtual 86, 3) := by decide +kernel
theorem dX4_readReel_94 : decode cX4_readReel 94 = .ok (.iconst (-1), 1) := by decide +kernel
theorem dX4_readReel_95 : decode cX4_readReel 95 = .ok (.if_icmp .eq 5, 3) := by decide +kernel
theorem dX4_readReel_98 : decode cX4_readReel 98 = .ok (.iconst 0, 1) := by decide +kernel
theorem dX4_readReel_99 : decode cX4_readReel 99 = .ok (.ireturn, 1) := by decide +kernel
theorem dX4_readReel_100 : decode cX4_readReel 100 = .ok (.aload_n 3, 1) := by decide +kernel
theorem dX4_readReel_101 : decode cX4_readReel 101 = .ok (.iload 5, 2) := by decide +kernel
theorem dX4_readReel_103 : decode cX4_readReel 103 = .ok (.iload 6, 2) := by decide +kernel
theorem dX4_readReel_105 : decode cX4_readReel 105 = .ok (.iload 7, 2) := by decide +kernel
theorem dX4_readReel_107 : decode cX4_readReel 107 = .ok (.invokevirtual 90, 3) := by decide +kernel
theorem dX4_readReel_110 : decode cX4_readReel 110 = .ok (.iinc 4 1, 3) := by decide +kernel
theorem dX4_readReel_113 : decode cX4_readReel 113 = .ok (.goto (-95), 3) := by decide +kernel
theorem dX4_readReel_116 : decode cX4_readReel 116 = .ok (.iconst 1, 1) := by decide +kernel
theorem dX4_readReel_117 : decode cX4_readReel 117 = .ok (.ireturn, 1) := by decide +kernel
theorem dX4_read_0 : decode cX4_read 0 = .ok (.aload_n 0, 1) := by decide +kernel
theorem dX4_read_1 : decode cX4_read 1 = .ok (.getfield 62, 3) := by decide +kernel
theorem dX4_read_4 : decode cX4_read 4 = .ok (.astore_n 3, 1) := by decide +kernel
theorem dX4_read_5 : decode cX4_read 5 = .ok (.iconst 2, 1) := by decide +kernel
theorem dX4_read_6 : decode cX4_read 6 = .ok (.iconst 2, 1) := by decide +kernel
theorem dX4_read_7 : decode cX4_read 7 = .ok (.aload_n 1, 1) := by decide +kernel
theorem dX4_read_8 : decode cX4_read 8 = .ok (.getfield 28, 3) := by decide +kernel
theorem dX4_read_11 : decode cX4_read 11 = .ok (.imul, 1) := by decide +kernel
theorem dX4_read_12 : decode cX4_read 12 = .ok (.iadd, 1) := by decide +kernel
theorem dX4_read_13 : decode cX4_read 13 = .ok (.istore 4, 2) := by decide +kernel
theorem dX4_read_15 : decode cX4_read 15 = .ok (.aload_n 0, 1) := by decide +kernel
theorem dX4_read_16 : decode cX4_read 16 = .ok (.getfield 65, 3) := by decide +kernel
theorem dX4_read_19 : decode cX4_read 19 = .ok (.iload 4, 2) := by decide +kernel
theorem dX4_read_21 : decode cX4_read 21 = .ok (.iconst 2, 1) := by decide +kernel
theorem dX4_read_22 : decode cX4_read 22 = .ok (.iadd, 1) := by decide +kernel
theorem dX4_read_23 : decode cX4_read 23 = .ok (.if_icmp .lt 42, 3) := by decide +kernel
theorem dX4_read_26 : decode cX4_read 26 = .ok (.aload_n 0, 1) := by decide +kernel
theorem dX4_read_27 : decode cX4_read 27 = .ok (.getfield 65, 3) := by decide +kernel
theorem dX4_read_30 : decode cX4_read 30 = .ok (.iload 4, 2) := by decide +kernel
theorem dX4_read_32 : decode cX4_read 32 = .ok (.iconst 2, 1) := by decide +kernel
theorem dX4_read_33 : decode cX4_read 33 = .ok (.iadd, 1) := by decide +kernel
theorem dX4_read_34 : decode cX4_read 34 = .ok (.iconst 3, 1) := by decide +kernel
theorem dX4_read_35 : decode cX4_read 35 = .ok (.aload_n 3, 1) := by decide +kernel
theorem dX4_read_36 : decode cX4_read 36 = .ok (.iload 4, 2) := by decide +kernel
theorem dX4_read_38 : decode cX4_read 38 = .ok (.iaload, 1) := by decide +kernel
theorem dX4_read_39 : decode cX4_read 39 = .ok (.imul, 1) := by decide +kernel
theorem dX4_read_40 : decode cX4_read 40 = .ok (.iadd, 1) := by decide +kernel
theorem dX4_read_41 : decode cX4_read 41 = .ok (.if_icmp .ne 24, 3) := by decide +kernel
theorem dX4_read_44 : decode cX4_read 44 = .ok (.aload_n 3, 1) := by decide +kernel
theorem dX4_read_45 : decode cX4_read 45 = .ok (.aload_n 0, 1) := by decide +kernel
theorem dX4_read_46 : decode cX4_read 46 = .ok (.getfield 65, 3) := by decide +kernel
theorem dX4_read_49 : decode cX4_read 49 = .ok (.iconst 1, 1) := by decide +kernel
theorem dX4_read_50 : decode cX4_read 50 = .ok (.isub, 1) := by decide +kernel
theorem dX4_read_51 : decode cX4_read 51 = .ok (.iaload, 1) := by decide +kernel
theorem dX4_read_52 : decode cX4_read 52 = .ok (.aload_n 3, 1) := by decide +kernel
theorem dX4_read_53 : decode cX4_read 53 = .ok (.aload_n 0, 1) := by decide +kernel
theorem dX4_read_54 : decode cX4_read 54 = .ok (.getfield 65, 3) := by decide +kernel
theorem dX4_read_57 : decode cX4_read 57 = .ok (.iconst 1, 1) := by decide +kernel
theorem dX4_read_58 : decode cX4_read 58 = .ok (.isub, 1) := by decide +kernel
theorem dX4_read_59 : decode cX4_read 59 = .ok (.invokestatic 58, 3) := by decide +kernel
theorem dX4_read_62 : decode cX4_read 62 = .ok (.if_icmp .eq 5, 3) := by decide +kernel
theorem dX4_read_65 : decode cX4_read 65 = .ok (.iconst 0, 1) := by decide +kernel
theorem dX4_read_66 : decode cX4_read 66 = .ok (.ireturn, 1) := by decide +kernel
theorem dX4_read_67 : decode cX4_read 67 = .ok (.aload_n 2, 1) := by decide +kernel
theorem dX4_read_68 : decode cX4_read 68 = .ok (.sipush 256, 3) := by decide +kernel
theorem dX4_read_71 : decode cX4_read 71 = .ok (.aload_n 3, 1) := by decide +kernel
theorem dX4_read_72 : decode cX4_read 72 = .ok (.iconst 0, 1) := by decide +kernel
theorem dX4_read_73 : decode cX4_read 73 = .ok (.iaload, 1) := by decide +kernel
theorem dX4_read_74 : decode cX4_read 74 = .ok (.imul, 1) := by decide +kernel
theorem dX4_read_75 : decode cX4_read 75 = .ok (.aload_n 3, 1) := by decide +kernel
theorem dX4_read_76 : decode cX4_read 76 = .ok (.iconst 1, 1) := by decide +kernel
theorem dX4_read_77 : decode cX4_read 77 = .ok (.iaload, 1) := by decide +kernel
theorem dX4_read_78 : decode cX4_read 78 = .ok (.iadd, 1) := by decide +kernel
theorem dX4_read_79 : decode cX4_read 79 = .ok (.putfield 19, 3) := by decide +kernel
theorem dX4_read_82 : decode cX4_read 82 = .ok (.aload_n 2, 1) := by decide +kernel
theorem dX4_read_83 : decode cX4_read 83 = .ok (.iconst 0, 1) := by decide +kernel
theorem dX4_read_84 : decode cX4_read 84 = .ok (.putfield 66, 3) := by decide +kernel
theorem dX4_read_87 : decode cX4_read 87 = .ok (.aload_n 2, 1) := by decide +kernel
theorem dX4_read_88 : decode cX4_read 88 = .ok (.getfield 19, 3) := by decide +kernel
theorem dX4_read_91 : decode cX4_read 91 = .ok (.sipush 999, 3) := by decide +kernel
theorem dX4_read_94 : decode cX4_read 94 = .ok (.if_icmp .gt 30, 3) := by decide +kernel
theorem dX4_read_97 : decode cX4_read 97 = .ok (.aload_n 3, 1) := by decide +kernel
theorem dX4_read_98 : decode cX4_read 98 = .ok (.aload_n 1, 1) := by decide +kernel
theorem dX4_read_99 : decode cX4_read 99 = .ok (.aload_n 2, 1) := by decide +kernel
theorem dX4_read_100 : decode cX4_read 100 = .ok (.invokestatic 69, 3) := by decide +kernel
theorem dX4_read_103 : decode cX4_read 103 = .ok (.ifCond .eq 21, 3) := by decide +kernel
theorem dX4_read_106 : decode cX4_read 106 = .ok (.aload_n 3, 1) := by decide +kernel
theorem dX4_read_107 : decode cX4_read 107 = .ok (.iload 4, 2) := by decide +kernel
theorem dX4_read_109 : decode cX4_read 109 = .ok (.aload_n 1, 1) := by decide +kernel
theorem dX4_read_110 : decode cX4_read 110 = .ok (.aload_n 2, 1) := by decide +kernel
theorem dX4_read_111 : decode cX4_read 111 = .ok (.getfield 40, 3) := by decide +kernel
theorem dX4_read_114 : decode cX4_read 114 = .ok (.invokestatic 73, 3) := by decide +kernel
theorem dX4_read_117 : decode cX4_read 117 = .ok (.ifCond .eq 7, 3) := by decide +kernel
theorem dX4_read_120 : decode cX4_read 120 = .ok (.iconst 1, 1) := by decide +kernel
theorem dX4_read_121 : decode cX4_read 121 = .ok (.goto 4, 3) := by decide +kernel
theorem dX4_read_124 : decode cX4_read 124 = .ok (.iconst 0, 1) := by decide +kernel
theorem dX4_read_125 : decode cX4_read 125 = .ok (.ireturn, 1) := by decide +kernel
theorem dX5_remove_0 : decode cX5_remove 0 = .ok (.iload_n 1, 1) := by decide +kernel
theorem dX5_remove_1 : decode cX5_remove 1 = .ok (.ifCond .lt 11, 3) := by decide +kernel
theorem dX5_remove_4 : decode cX5_remove 4 = .ok (.iload_n 1, 1) := by decide +kernel
theorem dX5_remove_5 : decode cX5_remove 5 = .ok (.aload_n 0, 1) := by decide +kernel
theorem dX5_remove_6 : decode cX5_remove 6 = .ok (.getfield 21, 3) := by decide +kernel
theorem dX5_remove_9 : decode cX5_remove 9 = .ok (.if_icmp .lt 4, 3) := by decide +kernel
theorem dX5_remove_12 : decode cX5_remove 12 = .ok (.return_, 1) := by decide +kernel
theorem dX5_remove_13 : decode cX5_remove 13 = .ok (.aload_n 0, 1) := by decide +kernel
theorem dX5_remove_14 : decode cX5_remove 14 = .ok (.dup, 1) := by decide +kernel
theorem dX5_remove_15 : decode cX5_remove 15 = .ok (.getfield 21, 3) := by decide +kernel
theorem dX5_remove_18 : decode cX5_remove 18 = .ok (.iconst 1, 1) := by decide +kernel
theorem dX5_remove_19 : decode cX5_remove 19 = .ok (.isub, 1) := by decide +kernel
theorem dX5_remove_20 : decode cX5_remove 20 = .ok (.putfield 21, 3) := by decide +kernel
theorem dX5_remove_23 : decode cX5_remove 23 = .ok (.iload_n 1, 1) := by decide +kernel
theorem dX5_remove_24 : decode cX5_remove 24 = .ok (.istore_n 2, 1) := by decide +kernel
theorem dX5_remove_25 : decode cX5_remove 25 = .ok (.iload_n 2, 1) := by decide +kernel
theorem dX5_remove_26 : decode cX5_remove 26 = .ok (.aload_n 0, 1) := by decide +kernel
theorem dX5_remove_27 : decode cX5_remove 27 = .ok (.getfield 21, 3) := by decide +kernel
theorem dX5_remove_30 : decode cX5_remove 30 = .ok (.if_icmp .ge 51, 3) := by decide +kernel
theorem dX5_remove_33 : decode cX5_remove 33 = .ok (.aload_n 0, 1) := by decide +kernel
theorem dX5_remove_34 : decode cX5_remove 34 = .ok (.getfield 9, 3) := by decide +kernel
theorem dX5_remove_37 : decode cX5_remove 37 = .ok (.iload_n 2, 1) := by decide +kernel
theorem dX5_remove_38 : decode cX5_remove 38 = .ok (.aload_n 0, 1) := by decide +kernel
theorem dX5_remove_39 : decode cX5_remove 39 = .ok (.getfield 9, 3) := by decide +kernel
theorem dX5_remove_42 : decode cX5_remove 42 = .ok (.iload_n 2, 1) := by decide +kernel
theorem dX5_remove_43 : decode cX5_remove 43 = .ok (.iconst 1, 1) := by decide +kernel
theorem dX5_remove_44 : decode cX5_remove 44 = .ok (.iadd, 1) := by decide +kernel
theorem dX5_remove_45 : decode cX5_remove 45 = .ok (.iaload, 1) := by decide +kernel
theorem dX5_remove_46 : decode cX5_remove 46 = .ok (.iastore, 1) := by decide +kernel
theorem dX5_remove_47 : decode cX5_remove 47 = .ok (.aload_n 0, 1) := by decide +kernel
theorem dX5_remove_48 : decode cX5_remove 48 = .ok (.getfield 15, 3) := by decide +kernel
theorem dX5_remove_51 : decode cX5_remove 51 = .ok (.iload_n 2, 1) := by decide +kernel
theorem dX5_remove_52 : decode cX5_remove 52 = .ok (.aload_n 0, 1) := by decide +kernel
theorem dX5_remove_53 : decode cX5_remove 53 = .ok (.getfield 15, 3) := by decide +kernel
theorem dX5_remove_56 : decode cX5_remove 56 = .ok (.iload_n 2, 1) := by decide +kernel
theorem dX5_remove_57 : decode cX5_remove 57 = .ok (.iconst 1, 1) := by decide +kernel
theorem dX5_remove_58 : decode cX5_remove 58 = .ok (.iadd, 1) := by decide +kernel
theorem dX5_remove_59 : decode cX5_remove 59 = .ok (.iaload, 1) := by decide +kernel
theorem dX5_remove_60 : decode cX5_remove 60 = .ok (.iastore, 1) := by decide +kernel
theorem dX5_remove_61 : decode cX5_remove 61 = .ok (.aload_n 0, 1) := by decide +kernel
theorem dX5_remove_62 : decode cX5_remove 62 = .ok (.getfield 18, 3) := by decide +kernel
theorem dX5_remove_65 : decode cX5_remove 65 = .ok (.iload_n 2, 1) := by decide +kernel
theorem dX5_remove_66 : decode cX5_remove 66 = .ok (.aload_n 0, 1) := by decide +kernel
theorem dX5_remove_67 : decode cX5_remove 67 = .ok (.getfield 18, 3) := by decide +kernel
theorem dX5_remove_70 : decode cX5_remove 70 = .ok (.iload_n 2, 1) := by decide +kernel
theorem dX5_remove_71 : decode cX5_remove 71 = .ok (.iconst 1, 1) := by decide +kernel
theorem dX5_remove_72 : decode cX5_remove 72 = .ok (.iadd, 1) := by decide +kernel
theorem dX5_remove_73 : decode cX5_remove 73 = .ok (.iaload, 1) := by decide +kernel
theorem dX5_remove_74 : decode cX5_remove 74 = .ok (.iastore, 1) := by decide +kernel
theorem dX5_remove_75 : decode cX5_remove 75 = .ok (.iinc 2 1, 3) := by decide +kernel
theorem dX5_remove_78 : decode cX5_remove 78 = .ok (.goto (-53), 3) := by decide +kernel
theorem dX5_remove_81 : decode cX5_remove 81 = .ok (.return_, 1) := by decide +kernel
theorem dX6_beginIn_0 : decode cX6_beginIn 0 = .ok (.aload_n 0, 1) := by decide +kernel
theorem dX6_beginIn_1 : decode cX6_beginIn 1 = .ok (.iconst 0, 1) := by decide +kernel
theorem dX6_beginIn_2 : decode cX6_beginIn 2 = .ok (.putfield 22, 3) := by decide +kernel
theorem dX6_beginIn_5 : decode cX6_beginIn 5 = .ok (.aload_n 1, 1) := by decide +kernel
theorem dX6_beginIn_6 : decode cX6_beginIn 6 = .ok (.getfield 26, 3) := by decide +kernel
theorem dX6_beginIn_9 : decode cX6_beginIn 9 = .ok (.iconst 0, 1) := by decide +kernel
theorem dX6_beginIn_10 : decode cX6_beginIn 10 = .ok (.aload_n 0, 1) := by decide +kernel
theorem dX6_beginIn_11 : decode cX6_beginIn 11 = .ok (.getfield 9, 3) := by decide +kernel
theorem dX6_beginIn_14 : decode cX6_beginIn 14 = .ok (.iconst 0, 1) := by decide +kernel
theorem dX6_beginIn_15 : decode cX6_beginIn 15 = .ok (.bipush 6, 2) := by decide +kernel
theorem dX6_beginIn_17 : decode cX6_beginIn 17 = .ok (.invokestatic 31, 3) := by decide +kernel
theorem dX6_beginIn_20 : decode cX6_beginIn 20 = .ok (.aload_n 0, 1) := by decide +kernel
theorem dX6_beginIn_21 : decode cX6_beginIn 21 = .ok (.aload_n 1, 1) := by decide +kernel
theorem dX6_beginIn_22 : decode cX6_beginIn 22 = .ok (.getfield 37, 3) := by decide +kernel
theorem dX6_beginIn_25 : decode cX6_beginIn 25 = .ok (.putfield 40, 3) := by decide +kernel
theorem dX6_beginIn_28 : decode cX6_beginIn 28 = .ok (.aload_n 0, 1) := by decide +kernel
theorem dX6_beginIn_29 : decode cX6_beginIn 29 = .ok (.getfield 18, 3) := by decide +kernel
theorem dX6_beginIn_32 : decode cX6_beginIn 32 = .ok (.aload_n 1, 1) := by decide +kernel
theorem dX6_beginIn_33 : decode cX6_beginIn 33 = .ok (.getfield 41, 3) := by decide +kernel
theorem dX6_beginIn_36 : decode cX6_beginIn 36 = .ok (.invokevirtual 42, 3) := by decide +kernel
theorem dX6_beginIn_39 : decode cX6_beginIn 39 = .ok (.aload_n 0, 1) := by decide +kernel
theorem dX6_beginIn_40 : decode cX6_beginIn 40 = .ok (.iconst 0, 1) := by decide +kernel
theorem dX6_beginIn_41 : decode cX6_beginIn 41 = .ok (.putfield 46, 3) := by decide +kernel
theorem dX6_beginIn_44 : decode cX6_beginIn 44 = .ok (.return_, 1) := by decide +kernel
theorem dX6_hasSpotsOf_0 : decode cX6_hasSpotsOf 0 = .ok (.iconst 0, 1) := by decide +kernel
theorem dX6_hasSpotsOf_1 : decode cX6_hasSpotsOf 1 = .ok (.istore_n 3, 1) := by decide +kernel
theorem dX6_hasSpotsOf_2 : decode cX6_hasSpotsOf 2 = .ok (.iload_n 3, 1) := by decide +kernel
theorem dX6_hasSpotsOf_3 : decode cX6_hasSpotsOf 3 = .ok (.iload_n 2, 1) := by decide +kernel
theorem dX6_hasSpotsOf_4 : decode cX6_hasSpotsOf 4 = .ok (.if_icmp .ge 26, 3) := by decide +kernel
theorem dX6_hasSpotsOf_7 : decode cX6_hasSpotsOf 7 = .ok (.aload_n 0, 1) := by decide +kernel
theorem dX6_hasSpotsOf_8 : decode cX6_hasSpotsOf 8 = .ok (.getfield 9, 3) := by decide +kernel
theorem dX6_hasSpotsOf_11 : decode cX6_hasSpotsOf 11 = .ok (.iload_n 3, 1) := by decide +kernel
theorem dX6_hasSpotsOf_12 : decode cX6_hasSpotsOf 12 = .ok (.iaload, 1) := by decide +kernel
theorem dX6_hasSpotsOf_13 : decode cX6_hasSpotsOf 13 = .ok (.aload_n 1, 1) := by decide +kernel
theorem dX6_hasSpotsOf_14 : decode cX6_hasSpotsOf 14 = .ok (.getfield 9, 3) := by decide +kernel
theorem dX6_hasSpotsOf_17 : decode cX6_hasSpotsOf 17 = .ok (.iload_n 3, 1) := by decide +kernel
theorem dX6_hasSpotsOf_18 : decode cX6_hasSpotsOf 18 = .ok (.iaload, 1) := by decide +kernel
theorem dX6_hasSpotsOf_19 : decode cX6_hasSpotsOf 19 = .ok (.if_icmp .eq 5, 3) := by decide +kernel
theorem dX6_hasSpotsOf_22 : decode cX6_hasSpotsOf 22 = .ok (.iconst 0, 1) := by decide +kernel
theorem dX6_hasSpotsOf_23 : decode cX6_hasSpotsOf 23 = .ok (.ireturn, 1) := by decide +kernel
theorem dX6_hasSpotsOf_24 : decode cX6_hasSpotsOf 24 = .ok (.iinc 3 1, 3) := by decide +kernel
theorem dX6_hasSpotsOf_27 : decode cX6_hasSpotsOf 27 = .ok (.goto (-25), 3) := by decide +kernel
theorem dX6_hasSpotsOf_30 : decode cX6_hasSpotsOf 30 = .ok (.iconst 1, 1) := by decide +kernel
theorem dX6_hasSpotsOf_31 : decode cX6_hasSpotsOf 31 = .ok (.ireturn, 1) := by decide +kernel
theorem dX10_spotOf_0 : decode cX10_spotOf 0 = .ok (.aload_n 0, 1) := by decide +kernel
theorem dX10_spotOf_1 : decode cX10_spotOf 1 = .ok (.getfield 9, 3) := by decide +kernel
theorem dX10_spotOf_4 : decode cX10_spotOf 4 = .ok (.bipush 6, 2) := by decide +kernel
theorem dX10_spotOf_6 : decode cX10_spotOf 6 = .ok (.iload_n 2, 1) := by decide +kernel
theorem dX10_spotOf_7 : decode cX10_spotOf 7 = .ok (.imul, 1) := by decide +kernel
theorem dX10_spotOf_8 : decode cX10_spotOf 8 = .ok (.iload_n 1, 1) := by decide +kernel
theorem dX10_spotOf_9 : decode cX10_spotOf 9 = .ok (.iadd, 1) := by decide +kernel
theorem dX10_spotOf_10 : decode cX10_spotOf 10 = .ok (.iaload, 1) := by decide +kernel
theorem dX10_spotOf_11 : decode cX10_spotOf 11 = .ok (.ireturn, 1) := by decide +kernel
theorem dX6_passInto_0 : decode cX6_passInto 0 = .ok (.iconst 0, 1) := by decide +kernel
theorem dX6_passInto_1 : decode cX6_passInto 1 = .ok (.istore_n 2, 1) := by decide +kernel
theorem dX6_passInto_2 : decode cX6_passInto 2 = .ok (.iload_n 2, 1) := by decide +kernel
theorem dX6_passInto_3 : decode cX6_passInto 3 = .ok (.bipush 6, 2) := by decide +kernel
theorem dX6_passInto_5 : decode cX6_passInto 5 = .ok (.if_icmp .ge 22, 3) := by decide +kernel
theorem dX6_passInto_8 : decode cX6_passInto 8 = .ok (.aload_n 0, 1) := by decide +kernel
theorem dX6_passInto_9 : decode cX6_passInto 9 = .ok (.getfield 9, 3) := by decide +kernel
theorem dX6_passInto_12 : decode cX6_passInto 12 = .ok (.iload_n 2, 1) := by decide +kernel
theorem dX6_passInto_13 : decode cX6_passInto 13 = .ok (.aload_n 1, 1) := by decide +kernel
theorem dX6_passInto_14 : decode cX6_passInto 14 = .ok (.iload_n 2, 1) := by decide +kernel
theorem dX6_passInto_15 : decode cX6_passInto 15 = .ok (.bipush 8, 2) := by decide +kernel
theorem dX6_passInto_17 : decode cX6_passInto 17 = .ok (.invokevirtual 49, 3) := by decide +kernel
theorem dX6_passInto_20 : decode cX6_passInto 20 = .ok (.iastore, 1) := by decide +kernel
theorem dX6_passInto_21 : decode cX6_passInto 21 = .ok (.iinc 2 1, 3) := by decide +kernel
theorem dX6_passInto_24 : decode cX6_passInto 24 = .ok (.goto (-22), 3) := by decide +kernel
theorem dX6_passInto_27 : decode cX6_passInto 27 = .ok (.aload_n 0, 1) := by decide +kernel
theorem dX6_passInto_28 : decode cX6_passInto 28 = .ok (.getfield 18, 3) := by decide +kernel
theorem dX6_passInto_31 : decode cX6_passInto 31 = .ok (.iconst 0, 1) := by decide +kernel
theorem dX6_passInto_32 : decode cX6_passInto 32 = .ok (.putfield 55, 3) := by decide +kernel
theorem dX6_passInto_35 : decode cX6_passInto 35 = .ok (.aload_n 0, 1) := by decide +kernel
theorem dX6_passInto_36 : decode cX6_passInto 36 = .ok (.dup, 1) := by decide +kernel
theorem dX6_passInto_37 : decode cX6_passInto 37 = .ok (.getfield 22, 3) := by decide +kernel
theorem dX6_passInto_40 : decode cX6_passInto 40 = .ok (.iconst 1, 1) := by decide +kernel
theorem dX6_passInto_41 : decode cX6_passInto 41 = .ok (.iadd, 1) := by decide +kernel
theorem dX6_passInto_42 : decode cX6_passInto 42 = .ok (.putfield 22, 3) := by decide +kernel
theorem dX6_passInto_45 : decode cX6_passInto 45 = .ok (.return_, 1) := by decide +kernel
theorem dX7_letterOf_0 : decode cX7_letterOf 0 = .ok (.iload_n 0, 1) := by decide +kernel
theorem dX7_letterOf_1 : decode cX7_letterOf 1 = .ok (.iconst 5, 1) := by decide +kernel
theorem dX7_letterOf_2 : decode cX7_letterOf 2 = .ok (.iconst 5, 1) := by decide +kernel
theorem dX7_letterOf_3 : decode cX7_letterOf 3 = .ok (.iload_n 1, 1) := by decide +kernel
theorem dX7_letterOf_4 : decode cX7_letterOf 4 = .ok (.isub, 1) := by decide +kernel
theorem dX7_letterOf_5 : decode cX7_letterOf 5 = .ok (.imul, 1) := by decide +kernel
theorem dX7_letterOf_6 : decode cX7_letterOf 6 = .ok (.ishr, 1) := by decide +kernel
theorem dX7_letterOf_7 : decode cX7_letterOf 7 = .ok (.bipush 31, 2) := by decide +kernel
theorem dX7_letterOf_9 : decode cX7_letterOf 9 = .ok (.iand, 1) := by decide +kernel
theorem dX7_letterOf_10 : decode cX7_letterOf 10 = .ok (.ireturn, 1) := by decide +kernel
theorem dX7_add_0 : decode cX7_add 0 = .ok (.bipush 24, 2) := by decide +kernel
theorem dX7_add_2 : decode cX7_add 2 = .ok (.istore_n 2, 1) := by decide +kernel
theorem dX7_add_3 : decode cX7_add 3 = .ok (.iload_n 2, 1) := by decide +kernel
theorem dX7_add_4 : decode cX7_add 4 = .ok (.ifCond .lt 45, 3) := by decide +kernel
theorem dX7_add_7 : decode cX7_add 7 = .ok (.aload_n 0, 1) := by decide +kernel
theorem dX7_add_8 : decode cX7_add 8 = .ok (.getfield 34, 3) := by decide +kernel
theorem dX7_add_11 : decode cX7_add 11 = .ok (.sipush 1600, 3) := by decide +kernel
theorem dX7_add_14 : decode cX7_add 14 = .ok (.if_icmp .ge 35, 3) := by decide +kernel
theorem dX7_add_17 : decode cX7_add 17 = .ok (.aload_n 0, 1) := by decide +kernel
theorem dX7_add_18 : decode cX7_add 18 = .ok (.getfield 9, 3) := by decide +kernel
theorem dX7_add_21 : decode cX7_add 21 = .ok (.aload_n 0, 1) := by decide +kernel
theorem dX7_add_22 : decode cX7_add 22 = .ok (.getfield 34, 3) := by decide +kernel
theorem dX7_add_25 : decode cX7_add 25 = .ok (.iload_n 1, 1) := by decide +kernel
theorem dX7_add_26 : decode cX7_add 26 = .ok (.iload_n 2, 1) := by decide +kernel
theorem dX7_add_27 : decode cX7_add 27 = .ok (.iushr, 1) := by decide +kernel
theorem dX7_add_28 : decode cX7_add 28 = .ok (.sipush 255, 3) := by decide +kernel
theorem dX7_add_31 : decode cX7_add 31 = .ok (.iand, 1) := by decide +kernel
theorem dX7_add_32 : decode cX7_add 32 = .ok (.iastore, 1) := by decide +kernel
theorem dX7_add_33 : decode cX7_add 33 = .ok (.aload_n 0, 1) := by decide +kernel
theorem dX7_add_34 : decode cX7_add 34 = .ok (.dup, 1) := by decide +kernel
theorem dX7_add_35 : decode cX7_add 35 = .ok (.getfield 34, 3) := by decide +kernel
theorem dX7_add_38 : decode cX7_add 38 = .ok (.iconst 1, 1) := by decide +kernel
theorem dX7_add_39 : decode cX7_add 39 = .ok (.iadd, 1) := by decide +kernel
theorem dX7_add_40 : decode cX7_add 40 = .ok (.putfield 34, 3) := by decide +kernel
theorem dX7_add_43 : decode cX7_add 43 = .ok (.iinc 2 (-8), 3) := by decide +kernel
theorem dX7_add_46 : decode cX7_add 46 = .ok (.goto (-43), 3) := by decide +kernel
theorem dX7_add_49 : decode cX7_add 49 = .ok (.return_, 1) := by decide +kernel
set_option maxRecDepth 20000 in
theorem t_X3_forget {l : Launch} {Y : YT} (hY : YOK Y) {M : Mem} {Q : Mem → Prop} (h : m_X3_forget  M Q) : Ctr l Y yX3_forget cX3_forget 1 none 1 [vR Y 62] M (PQv Y Q) := by
  unfold m_X3_forget at h
  refine ctr_ofF hY (by decide +kernel) (Nat.le_of_ble_eq_true rfl) [(0, vR Y 62)] rfl (fun X hX C hR => ?_)
  refine g_aload_n (q := 0) C dX3_forget_0 rfl rfl ?_
  refine g_iconst C dX3_forget_1 rfl ?_
  obtain ⟨M1, e_M1⟩ : ∃ z : Mem, z = up M 62 2 0 := ⟨_, rfl⟩
  have h := h M1 e_M1
  refine g_putI C fX3_22 pX3_22 dX3_forget_2 kd_62 e_M1 ?_
  exact g_retv C hR dX3_forget_5 h
set_option maxRecDepth 20000 in
theorem t_X5_copy {l : Launch} {Y : YT} (hY : YOK Y) {o : Int} {a0 : Int} {M : Mem} {Q : Mem → Prop} (h : m_X5_copy o a0 M Q) : Ctr l Y yX5_copy cX5_copy 2 none 2 [vR Y o, vR Y a0] M (PQv Y Q) := by
  unfold m_X5_copy at h
  obtain ⟨hk_o, h⟩ := h
  obtain ⟨hk_a0, h⟩ := h
  refine ctr_ofF hY (by decide +kernel) (Nat.le_of_ble_eq_true rfl) [(0, vR Y o), (1, vR Y a0)] rfl (fun X hX C hR => ?_)
  refine g_aload_n (q := 0) C dX5_copy_0 rfl rfl ?_
  refine g_aload_n (q := 1) C dX5_copy_1 rfl rfl ?_
  refine g_getI C fX5_21 (by decide) dX5_copy_2 hk_a0 ?_
  obtain ⟨M1, e_M1⟩ : ∃ z : Mem, z = up M o 0 (M a0 0) := ⟨_, rfl⟩
  have h := h M1 e_M1
  refine g_putI C fX5_21 pX5_21 dX5_copy_5 hk_o e_M1 ?_
  refine g_aload_n (q := 1) C dX5_copy_8 rfl rfl ?_
  refine g_getS (v := a0 + 1) C fX5_9 dX5_copy_9 hk_a0 rfl ?_
  refine g_iconst C dX5_copy_12 rfl ?_
  refine g_aload_n (q := 0) C dX5_copy_13 rfl rfl ?_
  refine g_getS (v := o + 1) C fX5_9 dX5_copy_14 hk_o rfl ?_
  refine g_iconst C dX5_copy_17 rfl ?_
  refine g_aload_n (q := 0) C dX5_copy_18 rfl rfl ?_
  refine g_getI C fX5_21 (by decide) dX5_copy_19 hk_o ?_
  obtain ⟨g2, h⟩ := h
  obtain ⟨g3, h⟩ := h
  obtain ⟨g4, h⟩ := h
  obtain ⟨M5, e_M5⟩ : ∃ z : Mem, z = cpy M1 (a0 + 1) 0 (o + 1) 0 (M1 o 0) := ⟨_, rfl⟩
  have h := h M5 e_M5
  refine g_copy C acX5_34 ac_n ac_s ac_i dX5_copy_22 (sub_5_1 hk_a0).1 (sub_5_1 hk_o).1 g2 (sub_5_1 hk_a0).2 (sub_5_1 hk_o).2 g3 g4 e_M5 (Nat.le_of_ble_eq_true rfl) (by decide) ?_
  refine g_aload_n (q := 1) C dX5_copy_25 rfl rfl ?_
  refine g_getS (v := a0 + 2) C fX5_15 dX5_copy_26 hk_a0 rfl ?_
  refine g_iconst C dX5_copy_29 rfl ?_
  refine g_aload_n (q := 0) C dX5_copy_30 rfl rfl ?_
  refine g_getS (v := o + 2) C fX5_15 dX5_copy_31 hk_o rfl ?_
  refine g_iconst C dX5_copy_34 rfl ?_
  refine g_aload_n (q := 0) C dX5_copy_35 rfl rfl ?_
  refine g_getI C fX5_21 (by decide) dX5_copy_36 hk_o ?_
  obtain ⟨g6, h⟩ := h
  obtain ⟨g7, h⟩ := h
  obtain ⟨g8, h⟩ := h
  obtain ⟨M9, e_M9⟩ : ∃ z : Mem, z = cpy M5 (a0 + 2) 0 (o + 2) 0 (M5 o 0) := ⟨_, rfl⟩
  have h := h M9 e_M9
  refine g_copy C acX5_34 ac_n ac_s ac_i dX5_copy_39 (sub_5_2 hk_a0).1 (sub_5_2 hk_o).1 g6 (sub_5_2 hk_a0).2 (sub_5_2 hk_o).2 g7 g8 e_M9 (Nat.le_of_ble_eq_true rfl) (by decide) ?_
  refine g_aload_n (q := 1) C dX5_copy_42 rfl rfl ?_
  refine g_getS (v := a0 + 3) C fX5_18 dX5_copy_43 hk_a0 rfl ?_
  refine g_iconst C dX5_copy_46 rfl ?_
  refine g_aload_n (q := 0) C dX5_copy_47 rfl rfl ?_
  refine g_getS (v := o + 3) C fX5_18 dX5_copy_48 hk_o rfl ?_
  refine g_iconst C dX5_copy_51 rfl ?_
  refine g_aload_n (q := 0) C dX5_copy_52 rfl rfl ?_
  refine g_getI C fX5_21 (by decide) dX5_copy_53 hk_o ?_
  obtain ⟨g10, h⟩ := h
  obtain ⟨g11, h⟩ := h
  obtain ⟨g12, h⟩ := h
  obtain ⟨M13, e_M13⟩ : ∃ z : Mem, z = cpy M9 (a0 + 3) 0 (o + 3) 0 (M9 o 0) := ⟨_, rfl⟩
  have h := h M13 e_M13
  refine g_copy C acX5_34 ac_n ac_s ac_i dX5_copy_56 (sub_5_3 hk_a0).1 (sub_5_3 hk_o).1 g10 (sub_5_3 hk_a0).2 (sub_5_3 hk_o).2 g11 g12 e_M13 (Nat.le_of_ble_eq_true rfl) (by decide) ?_
  exact g_retv C hR dX5_copy_59 h
set_option maxRecDepth 20000 in
theorem t_X6_copy {l : Launch} {Y : YT} (hY : YOK Y) {o : Int} {a0 : Int} {M : Mem} {Q : Mem → Prop} (h : m_X6_copy o a0 M Q) : Ctr l Y yX6_copy cX6_copy 2 none 3 [vR Y o, vR Y a0] M (PQv Y Q) := by
  unfold m_X6_copy at h
  obtain ⟨hk_o, h⟩ := h
  obtain ⟨hk_a0, h⟩ := h
  refine ctr_ofF hY (by decide +kernel) (Nat.le_of_ble_eq_true rfl) [(0, vR Y o), (1, vR Y a0)] rfl (fun X hX C hR => ?_)
  refine g_aload_n (q := 0) C dX6_copy_0 rfl rfl ?_
  refine g_aload_n (q := 1) C dX6_copy_1 rfl rfl ?_
  refine g_getI C fX6_22 (by decide) dX6_copy_2 hk_a0 ?_
  obtain ⟨M1, e_M1⟩ : ∃ z : Mem, z = up M o 0 (M a0 0) := ⟨_, rfl⟩
  have h := h M1 e_M1
  refine g_putI C fX6_22 pX6_22 dX6_copy_5 hk_o e_M1 ?_
  refine g_aload_n (q := 1) C dX6_copy_8 rfl rfl ?_
  refine g_getS (v := a0 + 1) C fX6_9 dX6_copy_9 hk_a0 rfl ?_
  refine g_iconst C dX6_copy_12 rfl ?_
  refine g_aload_n (q := 0) C dX6_copy_13 rfl rfl ?_
  refine g_getS (v := o + 1) C fX6_9 dX6_copy_14 hk_o rfl ?_
  refine g_iconst C dX6_copy_17 rfl ?_
  refine g_bipush (v := 6) C dX6_copy_18 (by decide +kernel) ?_
  obtain ⟨g2, h⟩ := h
  obtain ⟨g3, h⟩ := h
  obtain ⟨g4, h⟩ := h
  obtain ⟨M5, e_M5⟩ : ∃ z : Mem, z = cpy M1 (a0 + 1) 0 (o + 1) 0 6 := ⟨_, rfl⟩
  have h := h M5 e_M5
  refine g_copy C acX6_31 ac_n ac_s ac_i dX6_copy_20 (sub_6_1 hk_a0).1 (sub_6_1 hk_o).1 g2 (sub_6_1 hk_a0).2 (sub_6_1 hk_o).2 g3 g4 e_M5 (Nat.le_of_ble_eq_true rfl) (by decide) ?_
  refine g_aload_n (q := 0) C dX6_copy_23 rfl rfl ?_
  refine g_aload_n (q := 1) C dX6_copy_24 rfl rfl ?_
  refine g_getI C fX6_40 (by decide) dX6_copy_25 hk_a0 ?_
  obtain ⟨M6, e_M6⟩ : ∃ z : Mem, z = up M5 o 2 (M5 a0 2) := ⟨_, rfl⟩
  have h := h M6 e_M6
  refine g_putI C fX6_40 pX6_40 dX6_copy_28 hk_o e_M6 ?_
  refine g_aload_n (q := 0) C dX6_copy_31 rfl rfl ?_
  refine g_getS (v := o + 2) C fX6_18 dX6_copy_32 hk_o rfl ?_
  refine g_aload_n (q := 1) C dX6_copy_35 rfl rfl ?_
  refine g_getS (v := a0 + 2) C fX6_18 dX6_copy_36 hk_a0 rfl ?_
  refine g_cVv (As := [vR Y (a0 + 2)]) C clX6_42 clvX5_copy dX6_copy_39 (sub_6_3 hk_o) rfl (Nat.le_of_ble_eq_true rfl) rfl (by decide) (t_X5_copy (Cx.ok C) h) (fun M7 h => ?_)
  refine g_aload_n (q := 0) C dX6_copy_42 rfl rfl ?_
  refine g_aload_n (q := 1) C dX6_copy_43 rfl rfl ?_
  refine g_getI C fX6_46 (by decide) dX6_copy_44 hk_a0 ?_
  obtain ⟨M8, e_M8⟩ : ∃ z : Mem, z = up M7 o 4 (M7 a0 4) := ⟨_, rfl⟩
  have h := h M8 e_M8
  refine g_putI C fX6_46 pX6_46 dX6_copy_47 hk_o e_M8 ?_
  exact g_retv C hR dX6_copy_50 h
set_option maxRecDepth 20000 in
theorem t_X3_remember {l : Launch} {Y : YT} (hY : YOK Y) {a0 : Int} {M : Mem} {Q : Mem → Prop} (h : m_X3_remember a0 M Q) : Ctr l Y yX3_remember cX3_remember 2 none 4 [vR Y 62, vR Y a0] M (PQv Y Q) := by
  unfold m_X3_remember at h
  obtain ⟨hk_a0, h⟩ := h
  refine ctr_ofF hY (by decide +kernel) (Nat.le_of_ble_eq_true rfl) [(0, vR Y 62), (1, vR Y a0)] rfl (fun X hX C hR => ?_)
  refine g_aload_n (q := 0) C dX3_remember_0 rfl rfl ?_
  refine g_aload_n (q := 0) C dX3_remember_1 rfl rfl ?_
  refine g_getI C fX3_26 (by decide) dX3_remember_2 kd_62 ?_
  refine g_iconst C dX3_remember_5 rfl ?_
  refine g_iadd C dX3_remember_6 ?_
  refine g_bipush (v := 20) C dX3_remember_7 (by decide +kernel) ?_
  obtain ⟨g1, h⟩ := h
  refine g_irem C dX3_remember_9 g1 (by decide) (by decide) ?_
  obtain ⟨M2, e_M2⟩ : ∃ z : Mem, z = up M 62 1 (((M 62 1) + 1).tmod 20) := ⟨_, rfl⟩
  have h := h M2 e_M2
  refine g_putI C fX3_26 pX3_26 dX3_remember_10 kd_62 e_M2 ?_
  refine g_aload_n (q := 0) C dX3_remember_13 rfl rfl ?_
  refine g_getS (v := 63) C fX3_13 dX3_remember_14 kd_62 rfl ?_
  refine g_aload_n (q := 0) C dX3_remember_17 rfl rfl ?_
  refine g_getI C fX3_26 (by decide) dX3_remember_18 kd_62 ?_
  obtain ⟨g3, h⟩ := h
  refine g_sald C dX3_remember_21 kd_63 ln_63 g3 ?_
  refine g_aload_n (q := 1) C dX3_remember_22 rfl rfl ?_
  refine g_cVv (As := [vR Y a0]) C clX3_29 clvX6_copy dX3_remember_23 (sc_in g3) rfl (Nat.le_of_ble_eq_true rfl) rfl (by decide) (t_X6_copy (Cx.ok C) h) (fun M4 h => ?_)
  refine g_aload_n (q := 0) C dX3_remember_26 rfl rfl ?_
  refine g_aload_n (q := 0) C dX3_remember_27 rfl rfl ?_
  refine g_getI C fX3_22 (by decide) dX3_remember_28 kd_62 ?_
  refine g_iconst C dX3_remember_31 rfl ?_
  refine g_iadd C dX3_remember_32 ?_
  refine g_bipush (v := 20) C dX3_remember_33 (by decide +kernel) ?_
  refine g_cSi (As := [vI ((M4 62 2) + 1), vI 20]) C clX3_33 clsJ9_min_7cf53 dX3_remember_35 rfl (Nat.le_of_ble_eq_true rfl) rfl (by decide) (t_J9_min_7cf53 (Cx.ok C) h) (fun r6 M5 h => ?_)
  obtain ⟨M7, e_M7⟩ : ∃ z : Mem, z = up M5 62 2 r6 := ⟨_, rfl⟩
  have h := h M7 e_M7
  refine g_putI C fX3_22 pX3_22 dX3_remember_38 kd_62 e_M7 ?_
  exact g_retv C hR dX3_remember_41 h
set_option maxRecDepth 20000 in
theorem t_X3_bringBack {l : Launch} {Y : YT} (hY : YOK Y) {a0 : Int} {M : Mem} {Q : Int → Mem → Prop} (h : m_X3_bringBack a0 M Q) : Ctr l Y yX3_bringBack cX3_bringBack 2 (some .boolean) 4 [vR Y 62, vR Y a0] M (PQi Y Q) := by
  unfold m_X3_bringBack at h
  obtain ⟨hk_a0, h⟩ := h
  refine ctr_ofF hY (by decide +kernel) (Nat.le_of_ble_eq_true rfl) [(0, vR Y 62), (1, vR Y a0)] rfl (fun X hX C hR => ?_)
  refine g_aload_n (q := 0) C dX3_bringBack_0 rfl rfl ?_
  refine g_getI C fX3_22 (by decide) dX3_bringBack_1 kd_62 ?_
  obtain ⟨g1, h⟩ := h
  obtain ⟨ht, hf⟩ := h
  refine g_if_ne (tgt := 9) C dX3_bringBack_4 (by decide) g1 (fun c => ?_) (fun c => ?_)
  · have h := hf c
    refine g_aload_n (q := 1) C dX3_bringBack_9 rfl rfl ?_
    refine g_aload_n (q := 0) C dX3_bringBack_10 rfl rfl ?_
    refine g_getS (v := 63) C fX3_13 dX3_bringBack_11 kd_62 rfl ?_
    refine g_aload_n (q := 0) C dX3_bringBack_14 rfl rfl ?_
    refine g_getI C fX3_26 (by decide) dX3_bringBack_15 kd_62 ?_
    obtain ⟨g2, h⟩ := h
    refine g_sald C dX3_bringBack_18 kd_63 ln_63 g2 ?_
    refine g_cVv (As := [vR Y (63 + 2 + 6 * (M 62 1))]) C clX3_29 clvX6_copy dX3_bringBack_19 hk_a0 rfl (Nat.le_of_ble_eq_true rfl) rfl (by decide) (t_X6_copy (Cx.ok C) h) (fun M3 h => ?_)
    refine g_aload_n (q := 0) C dX3_bringBack_22 rfl rfl ?_
    refine g_aload_n (q := 0) C dX3_bringBack_23 rfl rfl ?_
    refine g_getI C fX3_26 (by decide) dX3_bringBack_24 kd_62 ?_
    refine g_bipush (v := 20) C dX3_bringBack_27 (by decide +kernel) ?_
    refine g_iadd C dX3_bringBack_29 ?_
    refine g_iconst C dX3_bringBack_30 rfl ?_
    refine g_isub C dX3_bringBack_31 ?_
    refine g_bipush (v := 20) C dX3_bringBack_32 (by decide +kernel) ?_
    obtain ⟨g4, h⟩ := h
    refine g_irem C dX3_bringBack_34 g4 (by decide) (by decide) ?_
    obtain ⟨M5, e_M5⟩ : ∃ z : Mem, z = up M3 62 1 ((((M3 62 1) + 20) - 1).tmod 20) := ⟨_, rfl⟩
    have h := h M5 e_M5
    refine g_putI C fX3_26 pX3_26 dX3_bringBack_35 kd_62 e_M5 ?_
    refine g_aload_n (q := 0) C dX3_bringBack_38 rfl rfl ?_
    refine g_dup C dX3_bringBack_39 rfl ?_
    refine g_getI C fX3_22 (by decide) dX3_bringBack_40 kd_62 ?_
    refine g_iconst C dX3_bringBack_43 rfl ?_
    refine g_isub C dX3_bringBack_44 ?_
    obtain ⟨M6, e_M6⟩ : ∃ z : Mem, z = up M5 62 2 ((M5 62 2) - 1) := ⟨_, rfl⟩
    have h := h M6 e_M6
    refine g_putI C fX3_22 pX3_22 dX3_bringBack_45 kd_62 e_M6 ?_
    refine g_iconst C dX3_bringBack_48 rfl ?_
    exact g_retz C hR dX3_bringBack_49 (by decide) h
  · have h := ht c
    refine g_iconst C dX3_bringBack_7 rfl ?_
    exact g_retz C hR dX3_bringBack_8 (by decide) h
set_option maxRecDepth 20000 in
theorem t_X3_keep {l : Launch} {Y : YT} (hY : YOK Y) {a0 : Int} {a1 : Int} {M : Mem} {Q : Mem → Prop} (h : m_X3_keep a0 a1 M Q) : Ctr l Y yX3_keep cX3_keep 4 none 1 [vR Y 62, vR Y a0, vI a1] M (PQv Y Q) := by
  unfold m_X3_keep at h
  obtain ⟨hk_a0, h⟩ := h
  refine ctr_ofF hY (by decide +kernel) (Nat.le_of_ble_eq_true rfl) [(0, vR Y 62), (1, vR Y a0), (2, vI a1)] rfl (fun X hX C hR => ?_)
  refine g_iconst C dX3_keep_0 rfl ?_
  refine g_aload_n (q := 1) C dX3_keep_1 rfl rfl ?_
  refine g_getI C fX3_39 (by decide) dX3_keep_2 hk_a0 ?_
  refine g_imul C dX3_keep_5 ?_
  refine g_istore_n (lv' := [(3, vI (3 * (M a0 4))), (0, vR Y 62), (1, vR Y a0), (2, vI a1)]) C dX3_keep_6 rfl (by decide) rfl ?_
  refine g_aload_n (q := 2) C dX3_keep_7 rfl rfl ?_
  refine g_getI C fX3_39 (by decide) dX3_keep_8 hk_a0 ?_
  refine g_sipush (v := 999) C dX3_keep_11 (by decide +kernel) ?_
  obtain ⟨g1, h⟩ := h
  obtain ⟨ht, hf⟩ := h
  refine g_icmp_lt (tgt := 18) C dX3_keep_14 (by decide) g1 (by decide) (fun c => ?_) (fun c => ?_)
  · have h := ht c
    refine g_aload_n (q := 1) C dX3_keep_18 rfl rfl ?_
    refine g_getS (v := 64) C fX3_17 dX3_keep_19 kd_62 rfl ?_
    refine g_iload_n (q := 0) C dX3_keep_22 rfl rfl ?_
    refine g_aload_n (q := 2) C dX3_keep_23 rfl rfl ?_
    refine g_getI C fX3_42 (by decide) dX3_keep_24 hk_a0 ?_
    obtain ⟨g2, h⟩ := h
    obtain ⟨M3, e_M3⟩ : ∃ z : Mem, z = up M 64 (3 * (M a0 4)) (M a0 0) := ⟨_, rfl⟩
    have h := h M3 e_M3
    refine g_iast C dX3_keep_27 kd_64 ln_64 g2 e_M3 ?_
    refine g_aload_n (q := 1) C dX3_keep_28 rfl rfl ?_
    refine g_getS (v := 64) C fX3_17 dX3_keep_29 kd_62 rfl ?_
    refine g_iload_n (q := 0) C dX3_keep_32 rfl rfl ?_
    refine g_iconst C dX3_keep_33 rfl ?_
    refine g_iadd C dX3_keep_34 ?_
    refine g_aload_n (q := 2) C dX3_keep_35 rfl rfl ?_
    refine g_getS (v := a0 + 2) C fX3_45 dX3_keep_36 hk_a0 rfl ?_
    refine g_getI C fX3_49 (by decide) dX3_keep_39 (sub_6_3 hk_a0) ?_
    obtain ⟨g4, h⟩ := h
    obtain ⟨M5, e_M5⟩ : ∃ z : Mem, z = up M3 64 ((3 * (M a0 4)) + 1) (M3 (a0 + 2) 0) := ⟨_, rfl⟩
    have h := h M5 e_M5
    refine g_iast C dX3_keep_42 kd_64 ln_64 g4 e_M5 ?_
    refine g_aload_n (q := 1) C dX3_keep_43 rfl rfl ?_
    refine g_getS (v := 64) C fX3_17 dX3_keep_44 kd_62 rfl ?_
    refine g_iload_n (q := 0) C dX3_keep_47 rfl rfl ?_
    refine g_iconst C dX3_keep_48 rfl ?_
    refine g_iadd C dX3_keep_49 ?_
    refine g_iload_n (q := 3) C dX3_keep_50 rfl rfl ?_
    obtain ⟨g6, h⟩ := h
    obtain ⟨M7, e_M7⟩ : ∃ z : Mem, z = up M5 64 ((3 * (M a0 4)) + 2) a1 := ⟨_, rfl⟩
    have h := h M7 e_M7
    refine g_iast C dX3_keep_51 kd_64 ln_64 g6 e_M7 ?_
    refine g_aload_n (q := 2) C dX3_keep_52 rfl rfl ?_
    refine g_dup C dX3_keep_53 rfl ?_
    refine g_getI C fX3_39 (by decide) dX3_keep_54 hk_a0 ?_
    refine g_iconst C dX3_keep_57 rfl ?_
    refine g_iadd C dX3_keep_58 ?_
    obtain ⟨M8, e_M8⟩ : ∃ z : Mem, z = up M7 a0 4 ((M7 a0 4) + 1) := ⟨_, rfl⟩
    have h := h M8 e_M8
    refine g_putI C fX3_39 pX3_39 dX3_keep_59 hk_a0 e_M8 ?_
    exact g_retv C hR dX3_keep_62 h
  · have h := hf c
    exact g_retv C hR dX3_keep_17 h
set_option maxRecDepth 20000 in
theorem t_X3_keptOf {l : Launch} {Y : YT} (hY : YOK Y) {a0 : Int} {a1 : Int} {M : Mem} {Q : Int → Mem → Prop} (h : m_X3_keptOf a0 a1 M Q) : Ctr l Y yX3_keptOf cX3_keptOf 3 (some .int) 1 [vR Y 62, vI a0, vI a1] M (PQi Y Q) := by
  unfold m_X3_keptOf at h
  refine ctr_ofF hY (by decide +kernel) (Nat.le_of_ble_eq_true rfl) [(0, vR Y 62), (1, vI a0), (2, vI a1)] rfl (fun X hX C hR => ?_)
  refine g_aload_n (q := 0) C dX3_keptOf_0 rfl rfl ?_
  refine g_getS (v := 64) C fX3_17 dX3_keptOf_1 kd_62 rfl ?_
  refine g_iconst C dX3_keptOf_4 rfl ?_
  refine g_iload_n (q := 1) C dX3_keptOf_5 rfl rfl ?_
  refine g_imul C dX3_keptOf_6 ?_
  refine g_iload_n (q := 2) C dX3_keptOf_7 rfl rfl ?_
  refine g_iadd C dX3_keptOf_8 ?_
  obtain ⟨g1, h⟩ := h
  refine g_iald C dX3_keptOf_9 kd_64 ln_64 g1 ?_
  exact g_reti C hR dX3_keptOf_10 h
set_option maxRecDepth 20000 in
theorem w_X4_add_J29 {Y : YT} {X : CX} (C : Cx Y X cX4_add 2 RX4 1) {Q : Mem → Prop} (hR : Rt Y X none (PQv Y Q))   {M : Mem}  (h : m_X4_add_J29  Q  M) : G Y X 2 29 [] ([]) M := by
  unfold m_X4_add_J29 at h
  exact g_retv C hR dX4_add_29 h
set_option maxRecDepth 20000 in
theorem t_X4_add {l : Launch} {Y : YT} (hY : YOK Y) {a0 : Int} {M : Mem} {Q : Mem → Prop} (h : m_X4_add a0 M Q) : Ctr l Y yX4_add cX4_add 2 none 1 [vR Y 185, vI a0] M (PQv Y Q) := by
  unfold m_X4_add at h
  refine ctr_ofF hY (by decide +kernel) (Nat.le_of_ble_eq_true rfl) [(0, vR Y 185), (1, vI a0)] rfl (fun X hX C hR => ?_)
  refine g_aload_n (q := 0) C dX4_add_0 rfl rfl ?_
  refine g_getI C fX4_15 (by decide) dX4_add_1 kd_185 ?_
  refine g_bipush (v := 40) C dX4_add_4 (by decide +kernel) ?_
  obtain ⟨g1, h⟩ := h
  obtain ⟨ht, hf⟩ := h
  refine g_icmp_ge (tgt := 29) C dX4_add_6 (by decide) g1 (by decide) (fun c => ?_) (fun c => ?_)
  · have h := ht c
    refine G.sub [] rfl ?_
    exact w_X4_add_J29 C hR  h
  · have h := hf c
    refine g_aload_n (q := 0) C dX4_add_9 rfl rfl ?_
    refine g_getS (v := 186) C fX4_11 dX4_add_10 kd_185 rfl ?_
    refine g_aload_n (q := 0) C dX4_add_13 rfl rfl ?_
    refine g_getI C fX4_15 (by decide) dX4_add_14 kd_185 ?_
    refine g_iload_n (q := 1) C dX4_add_17 rfl rfl ?_
    obtain ⟨g2, h⟩ := h
    obtain ⟨M3, e_M3⟩ : ∃ z : Mem, z = up M 186 (M 185 1) a0 := ⟨_, rfl⟩
    have h := h M3 e_M3
    refine g_iast C dX4_add_18 kd_186 ln_186 g2 e_M3 ?_
    refine g_aload_n (q := 0) C dX4_add_19 rfl rfl ?_
    refine g_dup C dX4_add_20 rfl ?_
    refine g_getI C fX4_15 (by decide) dX4_add_21 kd_185 ?_
    refine g_iconst C dX4_add_24 rfl ?_
    refine g_iadd C dX4_add_25 ?_
    obtain ⟨M4, e_M4⟩ : ∃ z : Mem, z = up M3 185 1 ((M3 185 1) + 1) := ⟨_, rfl⟩
    have h := h M4 e_M4
    refine g_putI C fX4_15 pX4_15 dX4_add_26 kd_185 e_M4 ?_
    refine G.sub [] rfl ?_
    exact w_X4_add_J29 C hR  h
set_option maxRecDepth 20000 in
theorem w_X6_watches_J17 {Y : YT} {X : CX} (C : Cx Y X cX6_watches 2 RX6 1) {Q : Int → Mem → Prop} (hR : Rt Y X (some .boolean) (PQi Y Q)) {s0 : Int}  {M : Mem}  (h : m_X6_watches_J17  Q s0 M) : G Y X 2 17 [] ((vI s0) :: []) M := by
  unfold m_X6_watches_J17 at h
  obtain ⟨g1, h⟩ := h
  exact g_retz C hR dX6_watches_17 g1 h
set_option maxRecDepth 20000 in
theorem t_X6_watches {l : Launch} {Y : YT} (hY : YOK Y) {o : Int} {a0 : Int} {M : Mem} {Q : Int → Mem → Prop} (h : m_X6_watches o a0 M Q) : Ctr l Y yX6_watches cX6_watches 2 (some .boolean) 1 [vR Y o, vI a0] M (PQi Y Q) := by
  unfold m_X6_watches at h
  obtain ⟨hk_o, h⟩ := h
  refine ctr_ofF hY (by decide +kernel) (Nat.le_of_ble_eq_true rfl) [(0, vR Y o), (1, vI a0)] rfl (fun X hX C hR => ?_)
  refine g_aload_n (q := 0) C dX6_watches_0 rfl rfl ?_
  refine g_getI C fX6_40 (by decide) dX6_watches_1 hk_o ?_
  refine g_iload_n (q := 1) C dX6_watches_4 rfl rfl ?_
  refine g_ishr C dX6_watches_5 ?_
  refine g_iconst C dX6_watches_6 rfl ?_
  refine g_iand C dX6_watches_7 ?_
  refine g_iconst C dX6_watches_8 rfl ?_
  obtain ⟨g2, h⟩ := h
  obtain ⟨ht, hf⟩ := h
  refine g_icmp_ne (tgt := 16) C dX6_watches_9 (by decide) g2 (by decide) (fun c => ?_) (fun c => ?_)
  · have h := hf c
    refine g_iconst C dX6_watches_16 rfl ?_
    refine G.sub [] rfl ?_
    exact w_X6_watches_J17 C hR  h
  · have h := ht c
    refine g_iconst C dX6_watches_12 rfl ?_
    refine g_goto (tgt := 17) C dX6_watches_13 (by decide) ?_
    refine G.sub [] rfl ?_
    exact w_X6_watches_J17 C hR  h
set_option maxRecDepth 20000 in
theorem w_X4_proof_L6 {Y : YT} {X : CX} (C : Cx Y X cX4_proof 4 RX4 1) {Q : Int → Mem → Prop} (hR : Rt Y X (some .int) (PQi Y Q)) {v0 : Int} {v1 : Int}  (hk_v0 : kd v0 = 20): ∀ (f : Nat) (v2 : Int) (v3 : Int) (M : Mem), m_X4_proof_L6  Q v0 v1 f v2 v3 M → G Y X 4 6 [(0, vR Y v0), (1, vI v1), (2, vI v2), (3, vI v3)] ([]) M := by
  intro f
  induction f with
  | zero =>
    intro v2 v3 M h
    exact (show False from h).elim
  | succ f ih =>
    intro v2 v3 M h
    unfold m_X4_proof_L6 at h
    refine g_iload_n (q := 3) C dX4_proof_6 rfl rfl ?_
    refine g_iload_n (q := 1) C dX4_proof_7 rfl rfl ?_
    obtain ⟨g1, h⟩ := h
    obtain ⟨g2, h⟩ := h
    obtain ⟨ht, hf⟩ := h
    refine g_icmp_ge (tgt := 29) C dX4_proof_8 (by decide) g1 g2 (fun c => ?_) (fun c => ?_)
    · have h := ht c
      refine g_iload_n (q := 2) C dX4_proof_29 rfl rfl ?_
      exact g_reti C hR dX4_proof_30 h
    · have h := hf c
      refine g_iconst C dX4_proof_11 rfl ?_
      refine g_iload_n (q := 2) C dX4_proof_12 rfl rfl ?_
      refine g_imul C dX4_proof_13 ?_
      refine g_aload_n (q := 0) C dX4_proof_14 rfl rfl ?_
      refine g_iload_n (q := 3) C dX4_proof_15 rfl rfl ?_
      obtain ⟨g3, h⟩ := h
      refine g_iald C dX4_proof_16 hk_v0 rfl g3 ?_
      refine g_iadd C dX4_proof_17 ?_
      refine g_sipush (v := 251) C dX4_proof_18 (by decide +kernel) ?_
      obtain ⟨g4, h⟩ := h
      refine g_irem C dX4_proof_21 g4 (by decide) (by decide) ?_
      obtain ⟨x5, e_x5⟩ : ∃ z : Int, z = ((5 * v2) + (M v0 v3)).tmod 251 := ⟨_, rfl⟩
      have h := h x5 e_x5
      refine G.nmI e_x5 ?_
      refine g_istore_n (lv' := [(2, vI x5), (0, vR Y v0), (1, vI v1), (3, vI v3)]) C dX4_proof_22 rfl (by decide) rfl ?_
      refine g_iinc (q := 3) (v := v3 + 1) (lv' := [(3, vI (v3 + 1)), (2, vI x5), (0, vR Y v0), (1, vI v1)]) C dX4_proof_23 rfl rfl (by decide) rfl ?_
      refine g_goto (tgt := 6) C dX4_proof_26 (by decide) ?_
      refine G.sub [2, 3, 1, 0] rfl ?_
      exact ih _ _ _ h
set_option maxRecDepth 20000 in
theorem t_X4_proof {l : Launch} {Y : YT} (hY : YOK Y) {a0 : Int} {a1 : Int} {M : Mem} {Q : Int → Mem → Prop} (h : m_X4_proof a0 a1 M Q) : Ctr l Y yX4_proof cX4_proof 4 (some .int) 1 [vR Y a0, vI a1] M (PQi Y Q) := by
  unfold m_X4_proof at h
  obtain ⟨hk_a0, h⟩ := h
  refine ctr_ofF hY (by decide +kernel) (Nat.le_of_ble_eq_true rfl) [(0, vR Y a0), (1, vI a1)] rfl (fun X hX C hR => ?_)
  refine g_sipush (v := 193) C dX4_proof_0 (by decide +kernel) ?_
  refine g_istore_n (lv' := [(2, vI 193), (0, vR Y a0), (1, vI a1)]) C dX4_proof_3 rfl (by decide) rfl ?_
  refine g_iconst C dX4_proof_4 rfl ?_
  refine g_istore_n (lv' := [(3, vI 0), (2, vI 193), (0, vR Y a0), (1, vI a1)]) C dX4_proof_5 rfl (by decide) rfl ?_
  obtain ⟨f0, h⟩ := h
  refine G.sub [2, 3, 1, 0] rfl ?_
  exact w_X4_proof_L6 C hR hk_a0 f0 _ _ _ h
set_option maxRecDepth 20000 in
theorem w_X4_write_L88 {Y : YT} {X : CX} (C : Cx Y X cX4_write 5 RX4 2) {Q : Mem → Prop} (hR : Rt Y X none (PQv Y Q)) {v3 : Int}  (hk_v3 : kd v3 = 5): ∀ (f : Nat) (v4 : Int) (M : Mem), m_X4_write_L88  Q v3 f v4 M → G Y X 5 88 [(0, vR Y 185), (3, vR Y v3), (4, vI v4)] ([]) M := by
  intro f
  induction f with
  | zero =>
    intro v4 M h
    exact (show False from h).elim
  | succ f ih =>
    intro v4 M h
    unfold m_X4_write_L88 at h
    refine g_iload (q := 2) C dX4_write_88 rfl ?_
    refine g_aload_n (q := 1) C dX4_write_90 rfl rfl ?_
    refine g_getI C fX4_44 (by decide) dX4_write_91 hk_v3 ?_
    obtain ⟨g1, h⟩ := h
    obtain ⟨g2, h⟩ := h
    obtain ⟨ht, hf⟩ := h
    refine g_icmp_ge (tgt := 136) C dX4_write_94 (by decide) g1 g2 (fun c => ?_) (fun c => ?_)
    · have h := ht c
      refine g_aload_n (q := 0) C dX4_write_136 rfl rfl ?_
      refine g_aload_n (q := 0) C dX4_write_137 rfl rfl ?_
      refine g_getS (v := 186) C fX4_11 dX4_write_138 kd_185 rfl ?_
      refine g_aload_n (q := 0) C dX4_write_141 rfl rfl ?_
      refine g_getI C fX4_15 (by decide) dX4_write_142 kd_185 ?_
      refine g_cSi (As := [vR Y 186, vI (M 185 1)]) C clX4_58 clsX4_proof dX4_write_145 rfl (Nat.le_of_ble_eq_true rfl) rfl (by decide) (t_X4_proof (Cx.ok C) h) (fun r4 M3 h => ?_)
      refine g_cVv (As := [vI r4]) C clX4_24 clvX4_add dX4_write_148 kd_185 rfl (Nat.le_of_ble_eq_true rfl) rfl (by decide) (t_X4_add (Cx.ok C) h) (fun M5 h => ?_)
      exact g_retv C hR dX4_write_151 h
    · have h := hf c
      refine g_aload_n (q := 0) C dX4_write_97 rfl rfl ?_
      refine g_aload_n (q := 1) C dX4_write_98 rfl rfl ?_
      refine g_getS (v := v3 + 1) C fX4_49 dX4_write_99 hk_v3 rfl ?_
      refine g_iload (q := 2) C dX4_write_102 rfl ?_
      obtain ⟨g6, h⟩ := h
      refine g_iald C dX4_write_104 (sub_5_1 hk_v3).1 (sub_5_1 hk_v3).2 g6 ?_
      refine g_cVv (As := [vI (M (v3 + 1) v4)]) C clX4_24 clvX4_add dX4_write_105 kd_185 rfl (Nat.le_of_ble_eq_true rfl) rfl (by decide) (t_X4_add (Cx.ok C) h) (fun M7 h => ?_)
      refine g_aload_n (q := 0) C dX4_write_108 rfl rfl ?_
      refine g_aload_n (q := 1) C dX4_write_109 rfl rfl ?_
      refine g_getS (v := v3 + 2) C fX4_52 dX4_write_110 hk_v3 rfl ?_
      refine g_iload (q := 2) C dX4_write_113 rfl ?_
      obtain ⟨g8, h⟩ := h
      refine g_iald C dX4_write_115 (sub_5_2 hk_v3).1 (sub_5_2 hk_v3).2 g8 ?_
      refine g_cVv (As := [vI (M7 (v3 + 2) v4)]) C clX4_24 clvX4_add dX4_write_116 kd_185 rfl (Nat.le_of_ble_eq_true rfl) rfl (by decide) (t_X4_add (Cx.ok C) h) (fun M9 h => ?_)
      refine g_aload_n (q := 0) C dX4_write_119 rfl rfl ?_
      refine g_aload_n (q := 1) C dX4_write_120 rfl rfl ?_
      refine g_getS (v := v3 + 3) C fX4_55 dX4_write_121 hk_v3 rfl ?_
      refine g_iload (q := 2) C dX4_write_124 rfl ?_
      obtain ⟨g10, h⟩ := h
      refine g_iald C dX4_write_126 (sub_5_3 hk_v3).1 (sub_5_3 hk_v3).2 g10 ?_
      refine g_cVv (As := [vI (M9 (v3 + 3) v4)]) C clX4_24 clvX4_add dX4_write_127 kd_185 rfl (Nat.le_of_ble_eq_true rfl) rfl (by decide) (t_X4_add (Cx.ok C) h) (fun M11 h => ?_)
      refine g_iinc (q := 2) (v := v4 + 1) (lv' := [(4, vI (v4 + 1)), (0, vR Y 185), (3, vR Y v3)]) C dX4_write_130 rfl rfl (by decide) rfl ?_
      refine g_goto (tgt := 88) C dX4_write_133 (by decide) ?_
      refine G.sub [1, 2, 0] rfl ?_
      exact ih _ _ h
set_option maxRecDepth 20000 in
theorem w_X4_write_J63 {Y : YT} {X : CX} (C : Cx Y X cX4_write 5 RX4 2) {Q : Mem → Prop} (hR : Rt Y X none (PQv Y Q)) {v1 : Int} {v2 : Int} {v3 : Int} {s1 : Int} {k31 : Int → Mem → Prop} (hk31 : ∀ (v3 : Int)  (M : Mem), k31 v3 M → G Y X 5 31 [(0, vR Y 185), (1, vR Y v1), (2, vR Y v2), (3, vI v3)] ([]) M) {M : Mem} (hk_v1 : kd v1 = 8) (hk_v2 : kd v2 = 6) (h : m_X4_write_J63 k31 Q v1 v2 v3 s1 M) : G Y X 5 63 [(0, vR Y 185), (1, vR Y v1), (2, vR Y v2), (3, vI v3)] ((vI s1) :: (vR Y 185) :: []) M := by
  unfold m_X4_write_J63 at h
  refine g_cVv (As := [vI s1]) C clX4_24 clvX4_add dX4_write_63 kd_185 rfl (Nat.le_of_ble_eq_true rfl) rfl (by decide) (t_X4_add (Cx.ok C) h) (fun M12 h => ?_)
  refine g_iinc (q := 3) (v := v3 + 1) (lv' := [(3, vI (v3 + 1)), (0, vR Y 185), (1, vR Y v1), (2, vR Y v2)]) C dX4_write_66 rfl rfl (by decide) rfl ?_
  refine g_goto (tgt := 31) C dX4_write_69 (by decide) ?_
  refine G.sub [1, 2, 3, 0] rfl ?_
  exact hk31 _ _ h
set_option maxRecDepth 20000 in
theorem w_X4_write_L31 {Y : YT} {X : CX} (C : Cx Y X cX4_write 5 RX4 2) {Q : Mem → Prop} (hR : Rt Y X none (PQv Y Q)) {v1 : Int} {v2 : Int}  (hk_v1 : kd v1 = 8) (hk_v2 : kd v2 = 6): ∀ (f : Nat) (v3 : Int) (M : Mem), m_X4_write_L31  Q v1 v2 f v3 M → G Y X 5 31 [(0, vR Y 185), (1, vR Y v1), (2, vR Y v2), (3, vI v3)] ([]) M := by
  intro f
  induction f with
  | zero =>
    intro v3 M h
    exact (show False from h).elim
  | succ f ih =>
    intro v3 M h
    unfold m_X4_write_L31 at h
    refine g_iload_n (q := 3) C dX4_write_31 rfl rfl ?_
    refine g_aload_n (q := 1) C dX4_write_32 rfl rfl ?_
    refine g_getI C fX4_28 (by decide) dX4_write_33 hk_v1 ?_
    obtain ⟨g13, h⟩ := h
    obtain ⟨g14, h⟩ := h
    obtain ⟨ht, hf⟩ := h
    refine g_icmp_ge (tgt := 72) C dX4_write_36 (by decide) g13 g14 (fun c => ?_) (fun c => ?_)
    · have h := ht c
      refine g_aload_n (q := 2) C dX4_write_72 rfl rfl ?_
      refine g_getS (v := v2 + 2) C fX4_40 dX4_write_73 hk_v2 rfl ?_
      refine g_astore_n (lv' := [(3, vR Y (v2 + 2)), (0, vR Y 185), (1, vR Y v1), (2, vR Y v2)]) C dX4_write_76 rfl (by decide) rfl ?_
      refine g_aload_n (q := 1) C dX4_write_77 rfl rfl ?_
      refine g_aload_n (q := 0) C dX4_write_78 rfl rfl ?_
      refine g_getI C fX4_44 (by decide) dX4_write_79 (sub_6_3 hk_v2) ?_
      refine g_cVv (As := [vI (M (v2 + 2) 0)]) C clX4_24 clvX4_add dX4_write_82 kd_185 rfl (Nat.le_of_ble_eq_true rfl) rfl (by decide) (t_X4_add (Cx.ok C) h) (fun M15 h => ?_)
      refine g_iconst C dX4_write_85 rfl ?_
      refine g_istore (lv' := [(4, vI 0), (3, vR Y (v2 + 2)), (0, vR Y 185), (1, vR Y v1), (2, vR Y v2)]) C dX4_write_86 (by decide) rfl ?_
      obtain ⟨f0, h⟩ := h
      refine G.sub [2, 1, 0] rfl ?_
      exact w_X4_write_L88 C hR (sub_6_3 hk_v2) f0 _ _ h
    · have h := hf c
      refine g_aload_n (q := 0) C dX4_write_39 rfl rfl ?_
      refine g_aload_n (q := 2) C dX4_write_40 rfl rfl ?_
      refine g_getS (v := v2 + 1) C fX4_33 dX4_write_41 hk_v2 rfl ?_
      refine g_iload_n (q := 3) C dX4_write_44 rfl rfl ?_
      obtain ⟨g16, h⟩ := h
      refine g_iald C dX4_write_45 (sub_6_1 hk_v2).1 (sub_6_1 hk_v2).2 g16 ?_
      refine g_cVv (As := [vI (M (v2 + 1) v3)]) C clX4_24 clvX4_add dX4_write_46 kd_185 rfl (Nat.le_of_ble_eq_true rfl) rfl (by decide) (t_X4_add (Cx.ok C) h) (fun M17 h => ?_)
      refine g_aload_n (q := 0) C dX4_write_49 rfl rfl ?_
      refine g_aload_n (q := 2) C dX4_write_50 rfl rfl ?_
      refine g_iload_n (q := 3) C dX4_write_51 rfl rfl ?_
      refine g_cVi (As := [vI v3]) C clX4_36 clvX6_watches dX4_write_52 hk_v2 rfl (Nat.le_of_ble_eq_true rfl) rfl (by decide) (t_X6_watches (Cx.ok C) h) (fun r19 M18 h => ?_)
      obtain ⟨g20, h⟩ := h
      obtain ⟨ht, hf⟩ := h
      refine g_if_eq (tgt := 62) C dX4_write_55 (by decide) g20 (fun c => ?_) (fun c => ?_)
      · have h := ht c
        refine g_iconst C dX4_write_62 rfl ?_
        refine G.sub [0, 1, 2, 3] rfl ?_
        exact w_X4_write_J63 C hR (ih) hk_v1 hk_v2 h
      · have h := hf c
        refine g_iconst C dX4_write_58 rfl ?_
        refine g_goto (tgt := 63) C dX4_write_59 (by decide) ?_
        refine G.sub [0, 1, 2, 3] rfl ?_
        exact w_X4_write_J63 C hR (ih) hk_v1 hk_v2 h
set_option maxRecDepth 20000 in
theorem t_X4_write {l : Launch} {Y : YT} (hY : YOK Y) {a0 : Int} {a1 : Int} {M : Mem} {Q : Mem → Prop} (h : m_X4_write a0 a1 M Q) : Ctr l Y yX4_write cX4_write 5 none 2 [vR Y 185, vR Y a0, vR Y a1] M (PQv Y Q) := by
  unfold m_X4_write at h
  obtain ⟨hk_a0, h⟩ := h
  obtain ⟨hk_a1, h⟩ := h
  refine ctr_ofF hY (by decide +kernel) (Nat.le_of_ble_eq_true rfl) [(0, vR Y 185), (1, vR Y a0), (2, vR Y a1)] rfl (fun X hX C hR => ?_)
  refine g_aload_n (q := 0) C dX4_write_0 rfl rfl ?_
  refine g_iconst C dX4_write_1 rfl ?_
  obtain ⟨M21, e_M21⟩ : ∃ z : Mem, z = up M 185 1 0 := ⟨_, rfl⟩
  have h := h M21 e_M21
  refine g_putI C fX4_15 pX4_15 dX4_write_2 kd_185 e_M21 ?_
  refine g_aload_n (q := 0) C dX4_write_5 rfl rfl ?_
  refine g_aload_n (q := 2) C dX4_write_6 rfl rfl ?_
  refine g_getI C fX4_19 (by decide) dX4_write_7 hk_a1 ?_
  refine g_sipush (v := 256) C dX4_write_10 (by decide +kernel) ?_
  obtain ⟨g22, h⟩ := h
  refine g_idiv C dX4_write_13 g22 (by decide) (by decide) ?_
  refine g_cVv (As := [vI ((M21 a1 0).tdiv 256)]) C clX4_24 clvX4_add dX4_write_14 kd_185 rfl (Nat.le_of_ble_eq_true rfl) rfl (by decide) (t_X4_add (Cx.ok C) h) (fun M23 h => ?_)
  refine g_aload_n (q := 0) C dX4_write_17 rfl rfl ?_
  refine g_aload_n (q := 2) C dX4_write_18 rfl rfl ?_
  refine g_getI C fX4_19 (by decide) dX4_write_19 hk_a1 ?_
  refine g_sipush (v := 256) C dX4_write_22 (by decide +kernel) ?_
  obtain ⟨g24, h⟩ := h
  refine g_irem C dX4_write_25 g24 (by decide) (by decide) ?_
  refine g_cVv (As := [vI ((M23 a1 0).tmod 256)]) C clX4_24 clvX4_add dX4_write_26 kd_185 rfl (Nat.le_of_ble_eq_true rfl) rfl (by decide) (t_X4_add (Cx.ok C) h) (fun M25 h => ?_)
  refine g_iconst C dX4_write_29 rfl ?_
  refine g_istore_n (lv' := [(3, vI 0), (0, vR Y 185), (1, vR Y a0), (2, vR Y a1)]) C dX4_write_30 rfl (by decide) rfl ?_
  obtain ⟨f0, h⟩ := h
  refine G.sub [1, 2, 3, 0] rfl ?_
  exact w_X4_write_L31 C hR hk_a0 hk_a1 f0 _ _ h
set_option maxRecDepth 20000 in
theorem w_X4_readPeople_J48 {Y : YT} {X : CX} (C : Cx Y X cX4_readPeople 6 RX4 1) {Q : Int → Mem → Prop} (hR : Rt Y X (some .boolean) (PQi Y Q))   {M : Mem}  (h : m_X4_readPeople_J48  Q  M) : G Y X 6 48 [] ([]) M := by
  unfold m_X4_readPeople_J48 at h
  refine g_iconst C dX4_readPeople_48 rfl ?_
  exact g_retz C hR dX4_readPeople_49 (by decide) h
set_option maxRecDepth 20000 in
theorem w_X4_readPeople_L7 {Y : YT} {X : CX} (C : Cx Y X cX4_readPeople 6 RX4 1) {Q : Int → Mem → Prop} (hR : Rt Y X (some .boolean) (PQi Y Q)) {v0 : Int} {v1 : Int} {v2 : Int}  (hk_v0 : kd v0 = 20) (hk_v1 : kd v1 = 8) (hk_v2 : kd v2 = 6): ∀ (f : Nat) (v3 : Int) (M : Mem), m_X4_readPeople_L7  Q v0 v1 v2 f v3 M → G Y X 6 7 [(0, vR Y v0), (1, vR Y v1), (2, vR Y v2), (3, vI v3)] ([]) M := by
  intro f
  induction f with
  | zero =>
    intro v3 M h
    exact (show False from h).elim
  | succ f ih =>
    intro v3 M h
    unfold m_X4_readPeople_L7 at h
    refine g_iload_n (q := 3) C dX4_readPeople_7 rfl rfl ?_
    refine g_aload_n (q := 1) C dX4_readPeople_8 rfl rfl ?_
    refine g_getI C fX4_28 (by decide) dX4_readPeople_9 hk_v1 ?_
    obtain ⟨g1, h⟩ := h
    obtain ⟨g2, h⟩ := h
    obtain ⟨ht, hf⟩ := h
    refine g_icmp_ge (tgt := 77) C dX4_readPeople_12 (by decide) g1 g2 (fun c => ?_) (fun c => ?_)
    · have h := ht c
      refine g_iconst C dX4_readPeople_77 rfl ?_
      exact g_retz C hR dX4_readPeople_78 (by decide) h
    · have h := hf c
      refine g_aload_n (q := 0) C dX4_readPeople_15 rfl rfl ?_
      refine g_iconst C dX4_readPeople_16 rfl ?_
      refine g_iconst C dX4_readPeople_17 rfl ?_
      refine g_iload_n (q := 3) C dX4_readPeople_18 rfl rfl ?_
      refine g_imul C dX4_readPeople_19 ?_
      refine g_iadd C dX4_readPeople_20 ?_
      obtain ⟨g3, h⟩ := h
      refine g_iald C dX4_readPeople_21 hk_v0 rfl g3 ?_
      refine g_istore (lv' := [(4, vI (M v0 (2 + (2 * v3)))), (0, vR Y v0), (1, vR Y v1), (2, vR Y v2), (3, vI v3)]) C dX4_readPeople_22 (by decide) rfl ?_
      refine g_aload_n (q := 1) C dX4_readPeople_24 rfl rfl ?_
      refine g_iconst C dX4_readPeople_25 rfl ?_
      refine g_iconst C dX4_readPeople_26 rfl ?_
      refine g_iload_n (q := 4) C dX4_readPeople_27 rfl rfl ?_
      refine g_imul C dX4_readPeople_28 ?_
      refine g_iadd C dX4_readPeople_29 ?_
      obtain ⟨g4, h⟩ := h
      refine g_iald C dX4_readPeople_30 hk_v0 rfl g4 ?_
      refine g_istore (lv' := [(5, vI (M v0 (3 + (2 * v3)))), (4, vI (M v0 (2 + (2 * v3)))), (0, vR Y v0), (1, vR Y v1), (2, vR Y v2), (3, vI v3)]) C dX4_readPeople_31 (by decide) rfl ?_
      refine g_iload (q := 1) C dX4_readPeople_33 rfl ?_
      refine g_aload_n (q := 3) C dX4_readPeople_35 rfl rfl ?_
      refine g_getI C fX4_80 (by decide) dX4_readPeople_36 hk_v1 ?_
      obtain ⟨g5, h⟩ := h
      obtain ⟨g6, h⟩ := h
      obtain ⟨ht, hf⟩ := h
      refine g_icmp_ge (tgt := 48) C dX4_readPeople_39 (by decide) g5 g6 (fun c => ?_) (fun c => ?_)
      · have h := ht c
        refine G.sub [] rfl ?_
        exact w_X4_readPeople_J48 C hR  h
      · have h := hf c
        refine g_iload (q := 0) C dX4_readPeople_42 rfl ?_
        refine g_iconst C dX4_readPeople_44 rfl ?_
        obtain ⟨g7, h⟩ := h
        obtain ⟨ht, hf⟩ := h
        refine g_icmp_le (tgt := 50) C dX4_readPeople_45 (by decide) g7 (by decide) (fun c => ?_) (fun c => ?_)
        · have h := ht c
          refine g_aload_n (q := 4) C dX4_readPeople_50 rfl rfl ?_
          refine g_getS (v := v2 + 1) C fX4_33 dX4_readPeople_51 hk_v2 rfl ?_
          refine g_iload_n (q := 5) C dX4_readPeople_54 rfl rfl ?_
          refine g_iload (q := 1) C dX4_readPeople_55 rfl ?_
          obtain ⟨g8, h⟩ := h
          obtain ⟨M9, e_M9⟩ : ∃ z : Mem, z = up M (v2 + 1) v3 (M v0 (2 + (2 * v3))) := ⟨_, rfl⟩
          have h := h M9 e_M9
          refine g_iast C dX4_readPeople_57 (sub_6_1 hk_v2).1 (sub_6_1 hk_v2).2 g8 e_M9 ?_
          refine g_aload_n (q := 4) C dX4_readPeople_58 rfl rfl ?_
          refine g_dup C dX4_readPeople_59 rfl ?_
          refine g_getI C fX4_77 (by decide) dX4_readPeople_60 hk_v2 ?_
          refine g_iload (q := 0) C dX4_readPeople_63 rfl ?_
          refine g_iload_n (q := 5) C dX4_readPeople_65 rfl rfl ?_
          refine g_ishl C dX4_readPeople_66 ?_
          refine g_ior C dX4_readPeople_67 ?_
          obtain ⟨M10, e_M10⟩ : ∃ z : Mem, z = up M9 v2 2 (zor (M9 v2 2) (zshl (M v0 (3 + (2 * v3))) v3)) := ⟨_, rfl⟩
          have h := h M10 e_M10
          refine g_putI C fX4_77 pX4_77 dX4_readPeople_68 hk_v2 e_M10 ?_
          refine g_iinc (q := 5) (v := v3 + 1) (lv' := [(3, vI (v3 + 1)), (5, vI (M v0 (3 + (2 * v3)))), (4, vI (M v0 (2 + (2 * v3)))), (0, vR Y v0), (1, vR Y v1), (2, vR Y v2)]) C dX4_readPeople_71 rfl rfl (by decide) rfl ?_
          refine g_goto (tgt := 7) C dX4_readPeople_74 (by decide) ?_
          refine G.sub [3, 4, 5, 0] rfl ?_
          exact ih _ _ h
        · have h := hf c
          refine G.sub [] rfl ?_
          exact w_X4_readPeople_J48 C hR  h
set_option maxRecDepth 20000 in
theorem t_X4_readPeople {l : Launch} {Y : YT} (hY : YOK Y) {a0 : Int} {a1 : Int} {a2 : Int} {M : Mem} {Q : Int → Mem → Prop} (h : m_X4_readPeople a0 a1 a2 M Q) : Ctr l Y yX4_readPeople cX4_readPeople 6 (some .boolean) 1 [vR Y a0, vR Y a1, vR Y a2] M (PQi Y Q) := by
  unfold m_X4_readPeople at h
  obtain ⟨hk_a0, h⟩ := h
  obtain ⟨hk_a1, h⟩ := h
  obtain ⟨hk_a2, h⟩ := h
  refine ctr_ofF hY (by decide +kernel) (Nat.le_of_ble_eq_true rfl) [(0, vR Y a0), (1, vR Y a1), (2, vR Y a2)] rfl (fun X hX C hR => ?_)
  refine g_aload_n (q := 2) C dX4_readPeople_0 rfl rfl ?_
  refine g_iconst C dX4_readPeople_1 rfl ?_
  obtain ⟨M11, e_M11⟩ : ∃ z : Mem, z = up M a2 2 0 := ⟨_, rfl⟩
  have h := h M11 e_M11
  refine g_putI C fX4_77 pX4_77 dX4_readPeople_2 hk_a2 e_M11 ?_
  refine g_iconst C dX4_readPeople_5 rfl ?_
  refine g_istore_n (lv' := [(3, vI 0), (0, vR Y a0), (1, vR Y a1), (2, vR Y a2)]) C dX4_readPeople_6 rfl (by decide) rfl ?_
  obtain ⟨f0, h⟩ := h
  refine G.sub [1, 2, 3, 0] rfl ?_
  exact w_X4_readPeople_L7 C hR hk_a0 hk_a1 hk_a2 f0 _ _ h
set_option maxRecDepth 20000 in
theorem w_X5_indexOf_J32 {Y : YT} {X : CX} (C : Cx Y X cX5_indexOf 4 RX5 1) {Q : Int → Mem → Prop} (hR : Rt Y X (some .int) (PQi Y Q)) {v0 : Int} {v1 : Int} {v2 : Int} {v3 : Int} {k2 : Int → Mem → Prop} (hk2 : ∀ (v3 : Int)  (M : Mem), k2 v3 M → G Y X 4 2 [(0, vR Y v0), (1, vI v1), (2, vI v2), (3, vI v3)] ([]) M) {M : Mem} (hk_v0 : kd v0 = 5) (h : m_X5_indexOf_J32 k2 Q v0 v1 v2 v3 M) : G Y X 4 32 [(0, vR Y v0), (1, vI v1), (2, vI v2), (3, vI v3)] ([]) M := by
  unfold m_X5_indexOf_J32 at h
  refine g_iinc (q := 3) (v := v3 + 1) (lv' := [(3, vI (v3 + 1)), (0, vR Y v0), (1, vI v1), (2, vI v2)]) C dX5_indexOf_32 rfl rfl (by decide) rfl ?_
  refine g_goto (tgt := 2) C dX5_indexOf_35 (by decide) ?_
  refine G.sub [1, 2, 3, 0] rfl ?_
  exact hk2 _ _ h
set_option maxRecDepth 20000 in
theorem w_X5_indexOf_L2 {Y : YT} {X : CX} (C : Cx Y X cX5_indexOf 4 RX5 1) {Q : Int → Mem → Prop} (hR : Rt Y X (some .int) (PQi Y Q)) {v0 : Int} {v1 : Int} {v2 : Int}  (hk_v0 : kd v0 = 5): ∀ (f : Nat) (v3 : Int) (M : Mem), m_X5_indexOf_L2  Q v0 v1 v2 f v3 M → G Y X 4 2 [(0, vR Y v0), (1, vI v1), (2, vI v2), (3, vI v3)] ([]) M := by
  intro f
  induction f with
  | zero =>
    intro v3 M h
    exact (show False from h).elim
  | succ f ih =>
    intro v3 M h
    unfold m_X5_indexOf_L2 at h
    refine g_iload_n (q := 3) C dX5_indexOf_2 rfl rfl ?_
    refine g_aload_n (q := 0) C dX5_indexOf_3 rfl rfl ?_
    refine g_getI C fX5_21 (by decide) dX5_indexOf_4 hk_v0 ?_
    obtain ⟨g1, h⟩ := h
    obtain ⟨g2, h⟩ := h
    obtain ⟨ht, hf⟩ := h
    refine g_icmp_ge (tgt := 38) C dX5_indexOf_7 (by decide) g1 g2 (fun c => ?_) (fun c => ?_)
    · have h := ht c
      refine g_iconst C dX5_indexOf_38 rfl ?_
      exact g_reti C hR dX5_indexOf_39 h
    · have h := hf c
      refine g_aload_n (q := 0) C dX5_indexOf_10 rfl rfl ?_
      refine g_getS (v := v0 + 1) C fX5_9 dX5_indexOf_11 hk_v0 rfl ?_
      refine g_iload_n (q := 3) C dX5_indexOf_14 rfl rfl ?_
      obtain ⟨g3, h⟩ := h
      refine g_iald C dX5_indexOf_15 (sub_5_1 hk_v0).1 (sub_5_1 hk_v0).2 g3 ?_
      refine g_iload_n (q := 1) C dX5_indexOf_16 rfl rfl ?_
      obtain ⟨g4, h⟩ := h
      obtain ⟨g5, h⟩ := h
      obtain ⟨ht, hf⟩ := h
      refine g_icmp_ne (tgt := 32) C dX5_indexOf_17 (by decide) g4 g5 (fun c => ?_) (fun c => ?_)
      · have h := hf c
        refine G.sub [0, 1, 2, 3] rfl ?_
        exact w_X5_indexOf_J32 C hR (ih) hk_v0 h
      · have h := ht c
        refine g_aload_n (q := 0) C dX5_indexOf_20 rfl rfl ?_
        refine g_getS (v := v0 + 2) C fX5_15 dX5_indexOf_21 hk_v0 rfl ?_
        refine g_iload_n (q := 3) C dX5_indexOf_24 rfl rfl ?_
        obtain ⟨g6, h⟩ := h
        refine g_iald C dX5_indexOf_25 (sub_5_2 hk_v0).1 (sub_5_2 hk_v0).2 g6 ?_
        refine g_iload_n (q := 2) C dX5_indexOf_26 rfl rfl ?_
        obtain ⟨g7, h⟩ := h
        obtain ⟨g8, h⟩ := h
        obtain ⟨ht, hf⟩ := h
        refine g_icmp_ne (tgt := 32) C dX5_indexOf_27 (by decide) g7 g8 (fun c => ?_) (fun c => ?_)
        · have h := hf c
          refine G.sub [0, 1, 2, 3] rfl ?_
          exact w_X5_indexOf_J32 C hR (ih) hk_v0 h
        · have h := ht c
          refine g_iload_n (q := 3) C dX5_indexOf_30 rfl rfl ?_
          exact g_reti C hR dX5_indexOf_31 h
set_option maxRecDepth 20000 in
theorem t_X5_indexOf {l : Launch} {Y : YT} (hY : YOK Y) {o : Int} {a0 : Int} {a1 : Int} {M : Mem} {Q : Int → Mem → Prop} (h : m_X5_indexOf o a0 a1 M Q) : Ctr l Y yX5_indexOf cX5_indexOf 4 (some .int) 1 [vR Y o, vI a0, vI a1] M (PQi Y Q) := by
  unfold m_X5_indexOf at h
  obtain ⟨hk_o, h⟩ := h
  refine ctr_ofF hY (by decide +kernel) (Nat.le_of_ble_eq_true rfl) [(0, vR Y o), (1, vI a0), (2, vI a1)] rfl (fun X hX C hR => ?_)
  refine g_iconst C dX5_indexOf_0 rfl ?_
  refine g_istore_n (lv' := [(3, vI 0), (0, vR Y o), (1, vI a0), (2, vI a1)]) C dX5_indexOf_1 rfl (by decide) rfl ?_
  obtain ⟨f0, h⟩ := h
  refine G.sub [1, 2, 3, 0] rfl ?_
  exact w_X5_indexOf_L2 C hR hk_o f0 _ _ h
set_option maxRecDepth 20000 in
theorem w_X5_put_J20 {Y : YT} {X : CX} (C : Cx Y X cX5_put 5 RX5 2) {Q : Mem → Prop} (hR : Rt Y X none (PQv Y Q)) {v0 : Int} {v1 : Int} {v2 : Int} {v3 : Int} {v4 : Int}  {M : Mem} (hk_v0 : kd v0 = 5) (h : m_X5_put_J20  Q v0 v1 v2 v3 v4 M) : G Y X 5 20 [(0, vR Y v0), (1, vI v1), (2, vI v2), (3, vI v3), (4, vI v4)] ([]) M := by
  unfold m_X5_put_J20 at h
  refine g_iload (q := 4) C dX5_put_20 rfl ?_
  refine g_bipush (v := 8) C dX5_put_22 (by decide +kernel) ?_
  obtain ⟨g1, h⟩ := h
  obtain ⟨ht, hf⟩ := h
  refine g_icmp_le (tgt := 28) C dX5_put_24 (by decide) g1 (by decide) (fun c => ?_) (fun c => ?_)
  · have h := ht c
    refine g_aload_n (q := 0) C dX5_put_28 rfl rfl ?_
    refine g_getS (v := v0 + 1) C fX5_9 dX5_put_29 hk_v0 rfl ?_
    refine g_iload (q := 4) C dX5_put_32 rfl ?_
    refine g_iload_n (q := 1) C dX5_put_34 rfl rfl ?_
    obtain ⟨g2, h⟩ := h
    obtain ⟨M3, e_M3⟩ : ∃ z : Mem, z = up M (v0 + 1) v4 v1 := ⟨_, rfl⟩
    have h := h M3 e_M3
    refine g_iast C dX5_put_35 (sub_5_1 hk_v0).1 (sub_5_1 hk_v0).2 g2 e_M3 ?_
    refine g_aload_n (q := 0) C dX5_put_36 rfl rfl ?_
    refine g_getS (v := v0 + 2) C fX5_15 dX5_put_37 hk_v0 rfl ?_
    refine g_iload (q := 4) C dX5_put_40 rfl ?_
    refine g_iload_n (q := 2) C dX5_put_42 rfl rfl ?_
    obtain ⟨g4, h⟩ := h
    obtain ⟨M5, e_M5⟩ : ∃ z : Mem, z = up M3 (v0 + 2) v4 v2 := ⟨_, rfl⟩
    have h := h M5 e_M5
    refine g_iast C dX5_put_43 (sub_5_2 hk_v0).1 (sub_5_2 hk_v0).2 g4 e_M5 ?_
    refine g_aload_n (q := 0) C dX5_put_44 rfl rfl ?_
    refine g_getS (v := v0 + 3) C fX5_18 dX5_put_45 hk_v0 rfl ?_
    refine g_iload (q := 4) C dX5_put_48 rfl ?_
    refine g_iload_n (q := 3) C dX5_put_50 rfl rfl ?_
    obtain ⟨g6, h⟩ := h
    obtain ⟨M7, e_M7⟩ : ∃ z : Mem, z = up M5 (v0 + 3) v4 v3 := ⟨_, rfl⟩
    have h := h M7 e_M7
    refine g_iast C dX5_put_51 (sub_5_3 hk_v0).1 (sub_5_3 hk_v0).2 g6 e_M7 ?_
    refine g_aload_n (q := 0) C dX5_put_52 rfl rfl ?_
    refine g_aload_n (q := 0) C dX5_put_53 rfl rfl ?_
    refine g_getI C fX5_21 (by decide) dX5_put_54 hk_v0 ?_
    refine g_iload (q := 4) C dX5_put_57 rfl ?_
    refine g_iconst C dX5_put_59 rfl ?_
    refine g_iadd C dX5_put_60 ?_
    refine g_cSi (As := [vI (M7 v0 0), vI (v4 + 1)]) C clX5_29 clsJ9_max_7cf53 dX5_put_61 rfl (Nat.le_of_ble_eq_true rfl) rfl (by decide) (t_J9_max_7cf53 (Cx.ok C) h) (fun r9 M8 h => ?_)
    obtain ⟨M10, e_M10⟩ : ∃ z : Mem, z = up M8 v0 0 r9 := ⟨_, rfl⟩
    have h := h M10 e_M10
    refine g_putI C fX5_21 pX5_21 dX5_put_64 hk_v0 e_M10 ?_
    exact g_retv C hR dX5_put_67 h
  · have h := hf c
    exact g_retv C hR dX5_put_27 h
set_option maxRecDepth 20000 in
theorem t_X5_put {l : Launch} {Y : YT} (hY : YOK Y) {o : Int} {a0 : Int} {a1 : Int} {a2 : Int} {M : Mem} {Q : Mem → Prop} (h : m_X5_put o a0 a1 a2 M Q) : Ctr l Y yX5_put cX5_put 5 none 2 [vR Y o, vI a0, vI a1, vI a2] M (PQv Y Q) := by
  unfold m_X5_put at h
  obtain ⟨hk_o, h⟩ := h
  refine ctr_ofF hY (by decide +kernel) (Nat.le_of_ble_eq_true rfl) [(0, vR Y o), (1, vI a0), (2, vI a1), (3, vI a2)] rfl (fun X hX C hR => ?_)
  refine g_aload_n (q := 0) C dX5_put_0 rfl rfl ?_
  refine g_iload_n (q := 1) C dX5_put_1 rfl rfl ?_
  refine g_iload_n (q := 2) C dX5_put_2 rfl rfl ?_
  refine g_cVi (As := [vI a0, vI a1]) C clX5_25 clvX5_indexOf dX5_put_3 hk_o rfl (Nat.le_of_ble_eq_true rfl) rfl (by decide) (t_X5_indexOf (Cx.ok C) h) (fun r12 M11 h => ?_)
  refine g_istore (lv' := [(4, vI r12), (0, vR Y o), (1, vI a0), (2, vI a1), (3, vI a2)]) C dX5_put_6 (by decide) rfl ?_
  refine g_iload (q := 0) C dX5_put_8 rfl ?_
  refine g_iconst C dX5_put_10 rfl ?_
  obtain ⟨g13, h⟩ := h
  obtain ⟨ht, hf⟩ := h
  refine g_icmp_ne (tgt := 20) C dX5_put_11 (by decide) g13 (by decide) (fun c => ?_) (fun c => ?_)
  · have h := hf c
    refine G.sub [1, 2, 3, 4, 0] rfl ?_
    exact w_X5_put_J20 C hR hk_o h
  · have h := ht c
    refine g_aload_n (q := 1) C dX5_put_14 rfl rfl ?_
    refine g_getI C fX5_21 (by decide) dX5_put_15 hk_o ?_
    refine g_istore (lv' := [(4, vI (M11 o 0)), (0, vR Y o), (1, vI a0), (2, vI a1), (3, vI a2)]) C dX5_put_18 (by decide) rfl ?_
    refine G.sub [1, 2, 3, 4, 0] rfl ?_
    exact w_X5_put_J20 C hR hk_o h
set_option maxRecDepth 20000 in
theorem w_X4_readReel_J98 {Y : YT} {X : CX} (C : Cx Y X cX4_readReel 8 RX4 3) {Q : Int → Mem → Prop} (hR : Rt Y X (some .boolean) (PQi Y Q))   {M : Mem}  (h : m_X4_readReel_J98  Q  M) : G Y X 8 98 [] ([]) M := by
  unfold m_X4_readReel_J98 at h
  refine g_iconst C dX4_readReel_98 rfl ?_
  exact g_retz C hR dX4_readReel_99 (by decide) h
set_option maxRecDepth 20000 in
theorem w_X4_readReel_L18 {Y : YT} {X : CX} (C : Cx Y X cX4_readReel 8 RX4 3) {Q : Int → Mem → Prop} (hR : Rt Y X (some .boolean) (PQi Y Q)) {v0 : Int} {v1 : Int} {v2 : Int} {v3 : Int}  (hk_v0 : kd v0 = 20) (hk_v2 : kd v2 = 8) (hk_v3 : kd v3 = 5): ∀ (f : Nat) (v4 : Int) (M : Mem), m_X4_readReel_L18  Q v0 v1 v2 v3 f v4 M → G Y X 8 18 [(0, vR Y v0), (1, vI v1), (2, vR Y v2), (3, vR Y v3), (4, vI v4)] ([]) M := by
  intro f
  induction f with
  | zero =>
    intro v4 M h
    exact (show False from h).elim
  | succ f ih =>
    intro v4 M h
    unfold m_X4_readReel_L18 at h
    refine g_iload (q := 4) C dX4_readReel_18 rfl ?_
    refine g_aload_n (q := 0) C dX4_readReel_20 rfl rfl ?_
    refine g_iload_n (q := 1) C dX4_readReel_21 rfl rfl ?_
    obtain ⟨g1, h⟩ := h
    refine g_iald C dX4_readReel_22 hk_v0 rfl g1 ?_
    obtain ⟨g2, h⟩ := h
    obtain ⟨g3, h⟩ := h
    obtain ⟨ht, hf⟩ := h
    refine g_icmp_ge (tgt := 116) C dX4_readReel_23 (by decide) g2 g3 (fun c => ?_) (fun c => ?_)
    · have h := ht c
      refine g_iconst C dX4_readReel_116 rfl ?_
      exact g_retz C hR dX4_readReel_117 (by decide) h
    · have h := hf c
      refine g_aload_n (q := 0) C dX4_readReel_26 rfl rfl ?_
      refine g_iload_n (q := 1) C dX4_readReel_27 rfl rfl ?_
      refine g_iconst C dX4_readReel_28 rfl ?_
      refine g_iload (q := 4) C dX4_readReel_29 rfl ?_
      refine g_imul C dX4_readReel_31 ?_
      refine g_iadd C dX4_readReel_32 ?_
      refine g_iconst C dX4_readReel_33 rfl ?_
      refine g_iadd C dX4_readReel_34 ?_
      obtain ⟨g4, h⟩ := h
      refine g_iald C dX4_readReel_35 hk_v0 rfl g4 ?_
      refine g_istore (lv' := [(5, vI (M v0 ((v1 + (3 * v4)) + 1))), (0, vR Y v0), (1, vI v1), (2, vR Y v2), (3, vR Y v3), (4, vI v4)]) C dX4_readReel_36 (by decide) rfl ?_
      refine g_aload_n (q := 1) C dX4_readReel_38 rfl rfl ?_
      refine g_iload_n (q := 2) C dX4_readReel_39 rfl rfl ?_
      refine g_iconst C dX4_readReel_40 rfl ?_
      refine g_iload (q := 5) C dX4_readReel_41 rfl ?_
      refine g_imul C dX4_readReel_43 ?_
      refine g_iadd C dX4_readReel_44 ?_
      refine g_iconst C dX4_readReel_45 rfl ?_
      refine g_iadd C dX4_readReel_46 ?_
      obtain ⟨g5, h⟩ := h
      refine g_iald C dX4_readReel_47 hk_v0 rfl g5 ?_
      refine g_istore (lv' := [(6, vI (M v0 ((v1 + (3 * v4)) + 2))), (5, vI (M v0 ((v1 + (3 * v4)) + 1))), (0, vR Y v0), (1, vI v1), (2, vR Y v2), (3, vR Y v3), (4, vI v4)]) C dX4_readReel_48 (by decide) rfl ?_
      refine g_aload_n (q := 2) C dX4_readReel_50 rfl rfl ?_
      refine g_iload_n (q := 3) C dX4_readReel_51 rfl rfl ?_
      refine g_iconst C dX4_readReel_52 rfl ?_
      refine g_iload (q := 6) C dX4_readReel_53 rfl ?_
      refine g_imul C dX4_readReel_55 ?_
      refine g_iadd C dX4_readReel_56 ?_
      refine g_iconst C dX4_readReel_57 rfl ?_
      refine g_iadd C dX4_readReel_58 ?_
      obtain ⟨g6, h⟩ := h
      refine g_iald C dX4_readReel_59 hk_v0 rfl g6 ?_
      refine g_istore (lv' := [(7, vI (M v0 ((v1 + (3 * v4)) + 3))), (6, vI (M v0 ((v1 + (3 * v4)) + 2))), (5, vI (M v0 ((v1 + (3 * v4)) + 1))), (0, vR Y v0), (1, vI v1), (2, vR Y v2), (3, vR Y v3), (4, vI v4)]) C dX4_readReel_60 (by decide) rfl ?_
      refine g_iload (q := 2) C dX4_readReel_62 rfl ?_
      refine g_cN C (by decide) is_i is_c clsX11_isStep (by decide) dX4_readReel_64 (Nat.le_of_ble_eq_true rfl) (by decide) (t_X11_isStep (Cx.ok C) h) (fun r8 M7 h => ?_)
      obtain ⟨g9, h⟩ := h
      obtain ⟨ht, hf⟩ := h
      refine g_if_eq (tgt := 98) C dX4_readReel_67 (by decide) g9 (fun c => ?_) (fun c => ?_)
      · have h := ht c
        refine G.sub [] rfl ?_
        exact w_X4_readReel_J98 C hR  h
      · have h := hf c
        refine g_iload (q := 1) C dX4_readReel_70 rfl ?_
        refine g_aload_n (q := 5) C dX4_readReel_72 rfl rfl ?_
        refine g_getI C fX4_80 (by decide) dX4_readReel_73 hk_v2 ?_
        obtain ⟨g10, h⟩ := h
        obtain ⟨g11, h⟩ := h
        obtain ⟨ht, hf⟩ := h
        refine g_icmp_ge (tgt := 98) C dX4_readReel_76 (by decide) g10 g11 (fun c => ?_) (fun c => ?_)
        · have h := ht c
          refine G.sub [] rfl ?_
          exact w_X4_readReel_J98 C hR  h
        · have h := hf c
          refine g_iload (q := 0) C dX4_readReel_79 rfl ?_
          refine g_bipush (v := 6) C dX4_readReel_81 (by decide +kernel) ?_
          obtain ⟨g12, h⟩ := h
          obtain ⟨ht, hf⟩ := h
          refine g_icmp_gt (tgt := 98) C dX4_readReel_83 (by decide) g12 (by decide) (fun c => ?_) (fun c => ?_)
          · have h := ht c
            refine G.sub [] rfl ?_
            exact w_X4_readReel_J98 C hR  h
          · have h := hf c
            refine g_aload_n (q := 6) C dX4_readReel_86 rfl rfl ?_
            refine g_iload (q := 2) C dX4_readReel_87 rfl ?_
            refine g_iload (q := 1) C dX4_readReel_89 rfl ?_
            refine g_cVi (As := [vI (M v0 ((v1 + (3 * v4)) + 1)), vI (M v0 ((v1 + (3 * v4)) + 2))]) C clX4_86 clvX5_indexOf dX4_readReel_91 hk_v3 rfl (Nat.le_of_ble_eq_true rfl) rfl (by decide) (t_X5_indexOf (Cx.ok C) h) (fun r14 M13 h => ?_)
            refine g_iconst C dX4_readReel_94 rfl ?_
            obtain ⟨g15, h⟩ := h
            obtain ⟨ht, hf⟩ := h
            refine g_icmp_eq (tgt := 100) C dX4_readReel_95 (by decide) g15 (by decide) (fun c => ?_) (fun c => ?_)
            · have h := ht c
              refine g_aload_n (q := 6) C dX4_readReel_100 rfl rfl ?_
              refine g_iload (q := 2) C dX4_readReel_101 rfl ?_
              refine g_iload (q := 1) C dX4_readReel_103 rfl ?_
              refine g_iload (q := 0) C dX4_readReel_105 rfl ?_
              refine g_cVv (As := [vI (M v0 ((v1 + (3 * v4)) + 1)), vI (M v0 ((v1 + (3 * v4)) + 2)), vI (M v0 ((v1 + (3 * v4)) + 3))]) C clX4_90 clvX5_put dX4_readReel_107 hk_v3 rfl (Nat.le_of_ble_eq_true rfl) rfl (by decide) (t_X5_put (Cx.ok C) h) (fun M16 h => ?_)
              refine g_iinc (q := 7) (v := v4 + 1) (lv' := [(4, vI (v4 + 1)), (7, vI (M v0 ((v1 + (3 * v4)) + 3))), (6, vI (M v0 ((v1 + (3 * v4)) + 2))), (5, vI (M v0 ((v1 + (3 * v4)) + 1))), (0, vR Y v0), (1, vI v1), (2, vR Y v2), (3, vR Y v3)]) C dX4_readReel_110 rfl rfl (by decide) rfl ?_
              refine g_goto (tgt := 18) C dX4_readReel_113 (by decide) ?_
              refine G.sub [4, 5, 6, 7, 0] rfl ?_
              exact ih _ _ h
            · have h := hf c
              refine G.sub [] rfl ?_
              exact w_X4_readReel_J98 C hR  h
set_option maxRecDepth 20000 in
theorem t_X4_readReel {l : Launch} {Y : YT} (hY : YOK Y) {a0 : Int} {a1 : Int} {a2 : Int} {a3 : Int} {M : Mem} {Q : Int → Mem → Prop} (h : m_X4_readReel a0 a1 a2 a3 M Q) : Ctr l Y yX4_readReel cX4_readReel 8 (some .boolean) 3 [vR Y a0, vI a1, vR Y a2, vR Y a3] M (PQi Y Q) := by
  unfold m_X4_readReel at h
  obtain ⟨hk_a0, h⟩ := h
  obtain ⟨hk_a2, h⟩ := h
  obtain ⟨hk_a3, h⟩ := h
  refine ctr_ofF hY (by decide +kernel) (Nat.le_of_ble_eq_true rfl) [(0, vR Y a0), (1, vI a1), (2, vR Y a2), (3, vR Y a3)] rfl (fun X hX C hR => ?_)
  refine g_aload_n (q := 3) C dX4_readReel_0 rfl rfl ?_
  refine g_iconst C dX4_readReel_1 rfl ?_
  obtain ⟨M17, e_M17⟩ : ∃ z : Mem, z = up M a3 0 0 := ⟨_, rfl⟩
  have h := h M17 e_M17
  refine g_putI C fX4_44 pX4_44 dX4_readReel_2 hk_a3 e_M17 ?_
  refine g_aload_n (q := 0) C dX4_readReel_5 rfl rfl ?_
  refine g_iload_n (q := 1) C dX4_readReel_6 rfl rfl ?_
  obtain ⟨g18, h⟩ := h
  refine g_iald C dX4_readReel_7 hk_a0 rfl g18 ?_
  refine g_bipush (v := 8) C dX4_readReel_8 (by decide +kernel) ?_
  obtain ⟨g19, h⟩ := h
  obtain ⟨ht, hf⟩ := h
  refine g_icmp_le (tgt := 15) C dX4_readReel_10 (by decide) g19 (by decide) (fun c => ?_) (fun c => ?_)
  · have h := ht c
    refine g_iconst C dX4_readReel_15 rfl ?_
    refine g_istore (lv' := [(4, vI 0), (0, vR Y a0), (1, vI a1), (2, vR Y a2), (3, vR Y a3)]) C dX4_readReel_16 (by decide) rfl ?_
    obtain ⟨f0, h⟩ := h
    refine G.sub [1, 2, 3, 4, 0] rfl ?_
    exact w_X4_readReel_L18 C hR hk_a0 hk_a2 hk_a3 f0 _ _ h
  · have h := hf c
    refine g_iconst C dX4_readReel_13 rfl ?_
    exact g_retz C hR dX4_readReel_14 (by decide) h
set_option maxRecDepth 20000 in
theorem w_X4_read_J125 {Y : YT} {X : CX} (C : Cx Y X cX4_read 5 RX4 4) {Q : Int → Mem → Prop} (hR : Rt Y X (some .boolean) (PQi Y Q)) {s0 : Int}  {M : Mem}  (h : m_X4_read_J125  Q s0 M) : G Y X 5 125 [] ((vI s0) :: []) M := by
  unfold m_X4_read_J125 at h
  obtain ⟨g1, h⟩ := h
  exact g_retz C hR dX4_read_125 g1 h
set_option maxRecDepth 20000 in
theorem w_X4_read_J124 {Y : YT} {X : CX} (C : Cx Y X cX4_read 5 RX4 4) {Q : Int → Mem → Prop} (hR : Rt Y X (some .boolean) (PQi Y Q))   {M : Mem}  (h : m_X4_read_J124  Q  M) : G Y X 5 124 [] ([]) M := by
  unfold m_X4_read_J124 at h
  refine g_iconst C dX4_read_124 rfl ?_
  refine G.sub [] rfl ?_
  exact w_X4_read_J125 C hR  h
set_option maxRecDepth 20000 in
theorem w_X4_read_J65 {Y : YT} {X : CX} (C : Cx Y X cX4_read 5 RX4 4) {Q : Int → Mem → Prop} (hR : Rt Y X (some .boolean) (PQi Y Q))   {M : Mem}  (h : m_X4_read_J65  Q  M) : G Y X 5 65 [] ([]) M := by
  unfold m_X4_read_J65 at h
  refine g_iconst C dX4_read_65 rfl ?_
  exact g_retz C hR dX4_read_66 (by decide) h
set_option maxRecDepth 20000 in
theorem t_X4_read {l : Launch} {Y : YT} (hY : YOK Y) {a1 : Int} {a2 : Int} {M : Mem} {Q : Int → Mem → Prop} (h : m_X4_read a1 a2 M Q) : Ctr l Y yX4_read cX4_read 5 (some .boolean) 4 [vR Y 1, vR Y a1, vR Y a2] M (PQi Y Q) := by
  unfold m_X4_read at h
  obtain ⟨hk_a1, h⟩ := h
  obtain ⟨hk_a2, h⟩ := h
  refine ctr_ofF hY (by decide +kernel) (Nat.le_of_ble_eq_true rfl) [(0, vR Y 1), (1, vR Y a1), (2, vR Y a2)] rfl (fun X hX C hR => ?_)
  refine g_aload_n (q := 0) C dX4_read_0 rfl rfl ?_
  refine g_getS (v := 2) C fX4_62 dX4_read_1 kd_1 rfl ?_
  refine g_astore_n (lv' := [(3, vR Y 2), (0, vR Y 1), (1, vR Y a1), (2, vR Y a2)]) C dX4_read_4 rfl (by decide) rfl ?_
  refine g_iconst C dX4_read_5 rfl ?_
  refine g_iconst C dX4_read_6 rfl ?_
  refine g_aload_n (q := 2) C dX4_read_7 rfl rfl ?_
  refine g_getI C fX4_28 (by decide) dX4_read_8 hk_a1 ?_
  refine g_imul C dX4_read_11 ?_
  refine g_iadd C dX4_read_12 ?_
  refine g_istore (lv' := [(4, vI (2 + (2 * (M a1 5)))), (3, vR Y 2), (0, vR Y 1), (1, vR Y a1), (2, vR Y a2)]) C dX4_read_13 (by decide) rfl ?_
  refine g_aload_n (q := 2) C dX4_read_15 rfl rfl ?_
  refine g_getI C fX4_65 (by decide) dX4_read_16 kd_1 ?_
  refine g_iload (q := 0) C dX4_read_19 rfl ?_
  refine g_iconst C dX4_read_21 rfl ?_
  refine g_iadd C dX4_read_22 ?_
  obtain ⟨g2, h⟩ := h
  obtain ⟨g3, h⟩ := h
  obtain ⟨ht, hf⟩ := h
  refine g_icmp_lt (tgt := 65) C dX4_read_23 (by decide) g2 g3 (fun c => ?_) (fun c => ?_)
  · have h := ht c
    refine G.sub [] rfl ?_
    exact w_X4_read_J65 C hR  h
  · have h := hf c
    refine g_aload_n (q := 2) C dX4_read_26 rfl rfl ?_
    refine g_getI C fX4_65 (by decide) dX4_read_27 kd_1 ?_
    refine g_iload (q := 0) C dX4_read_30 rfl ?_
    refine g_iconst C dX4_read_32 rfl ?_
    refine g_iadd C dX4_read_33 ?_
    refine g_iconst C dX4_read_34 rfl ?_
    refine g_aload_n (q := 1) C dX4_read_35 rfl rfl ?_
    refine g_iload (q := 0) C dX4_read_36 rfl ?_
    obtain ⟨g4, h⟩ := h
    refine g_iald C dX4_read_38 kd_2 ln_2 g4 ?_
    refine g_imul C dX4_read_39 ?_
    refine g_iadd C dX4_read_40 ?_
    obtain ⟨g5, h⟩ := h
    obtain ⟨g6, h⟩ := h
    obtain ⟨ht, hf⟩ := h
    refine g_icmp_ne (tgt := 65) C dX4_read_41 (by decide) g5 g6 (fun c => ?_) (fun c => ?_)
    · have h := hf c
      refine G.sub [] rfl ?_
      exact w_X4_read_J65 C hR  h
    · have h := ht c
      refine g_aload_n (q := 1) C dX4_read_44 rfl rfl ?_
      refine g_aload_n (q := 2) C dX4_read_45 rfl rfl ?_
      refine g_getI C fX4_65 (by decide) dX4_read_46 kd_1 ?_
      refine g_iconst C dX4_read_49 rfl ?_
      refine g_isub C dX4_read_50 ?_
      obtain ⟨g7, h⟩ := h
      refine g_iald C dX4_read_51 kd_2 ln_2 g7 ?_
      refine g_aload_n (q := 1) C dX4_read_52 rfl rfl ?_
      refine g_aload_n (q := 2) C dX4_read_53 rfl rfl ?_
      refine g_getI C fX4_65 (by decide) dX4_read_54 kd_1 ?_
      refine g_iconst C dX4_read_57 rfl ?_
      refine g_isub C dX4_read_58 ?_
      refine g_cSi (As := [vR Y 2, vI ((M 1 1) - 1)]) C clX4_58 clsX4_proof dX4_read_59 rfl (Nat.le_of_ble_eq_true rfl) rfl (by decide) (t_X4_proof (Cx.ok C) h) (fun r9 M8 h => ?_)
      obtain ⟨g10, h⟩ := h
      obtain ⟨g11, h⟩ := h
      obtain ⟨ht, hf⟩ := h
      refine g_icmp_eq (tgt := 67) C dX4_read_62 (by decide) g10 g11 (fun c => ?_) (fun c => ?_)
      · have h := ht c
        refine g_aload_n (q := 4) C dX4_read_67 rfl rfl ?_
        refine g_sipush (v := 256) C dX4_read_68 (by decide +kernel) ?_
        refine g_aload_n (q := 1) C dX4_read_71 rfl rfl ?_
        refine g_iconst C dX4_read_72 rfl ?_
        refine g_iald C dX4_read_73 kd_2 ln_2 (by decide) ?_
        refine g_imul C dX4_read_74 ?_
        refine g_aload_n (q := 1) C dX4_read_75 rfl rfl ?_
        refine g_iconst C dX4_read_76 rfl ?_
        refine g_iald C dX4_read_77 kd_2 ln_2 (by decide) ?_
        refine g_iadd C dX4_read_78 ?_
        obtain ⟨M12, e_M12⟩ : ∃ z : Mem, z = up M8 a2 0 ((256 * (M8 2 0)) + (M8 2 1)) := ⟨_, rfl⟩
        have h := h M12 e_M12
        refine g_putI C fX4_19 pX4_19 dX4_read_79 hk_a2 e_M12 ?_
        refine g_aload_n (q := 4) C dX4_read_82 rfl rfl ?_
        refine g_iconst C dX4_read_83 rfl ?_
        obtain ⟨M13, e_M13⟩ : ∃ z : Mem, z = up M12 a2 4 0 := ⟨_, rfl⟩
        have h := h M13 e_M13
        refine g_putI C fX4_66 pX4_66 dX4_read_84 hk_a2 e_M13 ?_
        refine g_aload_n (q := 4) C dX4_read_87 rfl rfl ?_
        refine g_getI C fX4_19 (by decide) dX4_read_88 hk_a2 ?_
        refine g_sipush (v := 999) C dX4_read_91 (by decide +kernel) ?_
        obtain ⟨g14, h⟩ := h
        obtain ⟨ht, hf⟩ := h
        refine g_icmp_gt (tgt := 124) C dX4_read_94 (by decide) g14 (by decide) (fun c => ?_) (fun c => ?_)
        · have h := ht c
          refine G.sub [] rfl ?_
          exact w_X4_read_J124 C hR  h
        · have h := hf c
          refine g_aload_n (q := 1) C dX4_read_97 rfl rfl ?_
          refine g_aload_n (q := 3) C dX4_read_98 rfl rfl ?_
          refine g_aload_n (q := 4) C dX4_read_99 rfl rfl ?_
          refine g_cSi (As := [vR Y 2, vR Y a1, vR Y a2]) C clX4_69 clsX4_readPeople dX4_read_100 rfl (Nat.le_of_ble_eq_true rfl) rfl (by decide) (t_X4_readPeople (Cx.ok C) h) (fun r16 M15 h => ?_)
          obtain ⟨g17, h⟩ := h
          obtain ⟨ht, hf⟩ := h
          refine g_if_eq (tgt := 124) C dX4_read_103 (by decide) g17 (fun c => ?_) (fun c => ?_)
          · have h := ht c
            refine G.sub [] rfl ?_
            exact w_X4_read_J124 C hR  h
          · have h := hf c
            refine g_aload_n (q := 1) C dX4_read_106 rfl rfl ?_
            refine g_iload (q := 0) C dX4_read_107 rfl ?_
            refine g_aload_n (q := 3) C dX4_read_109 rfl rfl ?_
            refine g_aload_n (q := 4) C dX4_read_110 rfl rfl ?_
            refine g_getS (v := a2 + 2) C fX4_40 dX4_read_111 hk_a2 rfl ?_
            refine g_cSi (As := [vR Y 2, vI (2 + (2 * (M a1 5))), vR Y a1, vR Y (a2 + 2)]) C clX4_73 clsX4_readReel dX4_read_114 rfl (Nat.le_of_ble_eq_true rfl) rfl (by decide) (t_X4_readReel (Cx.ok C) h) (fun r19 M18 h => ?_)
            obtain ⟨g20, h⟩ := h
            obtain ⟨ht, hf⟩ := h
            refine g_if_eq (tgt := 124) C dX4_read_117 (by decide) g20 (fun c => ?_) (fun c => ?_)
            · have h := ht c
              refine G.sub [] rfl ?_
              exact w_X4_read_J124 C hR  h
            · have h := hf c
              refine g_iconst C dX4_read_120 rfl ?_
              refine g_goto (tgt := 125) C dX4_read_121 (by decide) ?_
              refine G.sub [] rfl ?_
              exact w_X4_read_J125 C hR  h
      · have h := hf c
        refine G.sub [] rfl ?_
        exact w_X4_read_J65 C hR  h
set_option maxRecDepth 20000 in
theorem w_X5_remove_L25 {Y : YT} {X : CX} (C : Cx Y X cX5_remove 3 RX5 1) {Q : Mem → Prop} (hR : Rt Y X none (PQv Y Q)) {v0 : Int}  (hk_v0 : kd v0 = 5): ∀ (f : Nat) (v2 : Int) (M : Mem), m_X5_remove_L25  Q v0 f v2 M → G Y X 3 25 [(0, vR Y v0), (2, vI v2)] ([]) M := by
  intro f
  induction f with
  | zero =>
    intro v2 M h
    exact (show False from h).elim
  | succ f ih =>
    intro v2 M h
    unfold m_X5_remove_L25 at h
    refine g_iload_n (q := 1) C dX5_remove_25 rfl rfl ?_
    refine g_aload_n (q := 0) C dX5_remove_26 rfl rfl ?_
    refine g_getI C fX5_21 (by decide) dX5_remove_27 hk_v0 ?_
    obtain ⟨g1, h⟩ := h
    obtain ⟨g2, h⟩ := h
    obtain ⟨ht, hf⟩ := h
    refine g_icmp_ge (tgt := 81) C dX5_remove_30 (by decide) g1 g2 (fun c => ?_) (fun c => ?_)
    · have h := ht c
      exact g_retv C hR dX5_remove_81 h
    · have h := hf c
      refine g_aload_n (q := 0) C dX5_remove_33 rfl rfl ?_
      refine g_getS (v := v0 + 1) C fX5_9 dX5_remove_34 hk_v0 rfl ?_
      refine g_iload_n (q := 1) C dX5_remove_37 rfl rfl ?_
      refine g_aload_n (q := 0) C dX5_remove_38 rfl rfl ?_
      refine g_getS (v := v0 + 1) C fX5_9 dX5_remove_39 hk_v0 rfl ?_
      refine g_iload_n (q := 1) C dX5_remove_42 rfl rfl ?_
      refine g_iconst C dX5_remove_43 rfl ?_
      refine g_iadd C dX5_remove_44 ?_
      obtain ⟨g3, h⟩ := h
      refine g_iald C dX5_remove_45 (sub_5_1 hk_v0).1 (sub_5_1 hk_v0).2 g3 ?_
      obtain ⟨g4, h⟩ := h
      obtain ⟨M5, e_M5⟩ : ∃ z : Mem, z = up M (v0 + 1) v2 (M (v0 + 1) (v2 + 1)) := ⟨_, rfl⟩
      have h := h M5 e_M5
      refine g_iast C dX5_remove_46 (sub_5_1 hk_v0).1 (sub_5_1 hk_v0).2 g4 e_M5 ?_
      refine g_aload_n (q := 0) C dX5_remove_47 rfl rfl ?_
      refine g_getS (v := v0 + 2) C fX5_15 dX5_remove_48 hk_v0 rfl ?_
      refine g_iload_n (q := 1) C dX5_remove_51 rfl rfl ?_
      refine g_aload_n (q := 0) C dX5_remove_52 rfl rfl ?_
      refine g_getS (v := v0 + 2) C fX5_15 dX5_remove_53 hk_v0 rfl ?_
      refine g_iload_n (q := 1) C dX5_remove_56 rfl rfl ?_
      refine g_iconst C dX5_remove_57 rfl ?_
      refine g_iadd C dX5_remove_58 ?_
      obtain ⟨g6, h⟩ := h
      refine g_iald C dX5_remove_59 (sub_5_2 hk_v0).1 (sub_5_2 hk_v0).2 g6 ?_
      obtain ⟨g7, h⟩ := h
      obtain ⟨M8, e_M8⟩ : ∃ z : Mem, z = up M5 (v0 + 2) v2 (M5 (v0 + 2) (v2 + 1)) := ⟨_, rfl⟩
      have h := h M8 e_M8
      refine g_iast C dX5_remove_60 (sub_5_2 hk_v0).1 (sub_5_2 hk_v0).2 g7 e_M8 ?_
      refine g_aload_n (q := 0) C dX5_remove_61 rfl rfl ?_
      refine g_getS (v := v0 + 3) C fX5_18 dX5_remove_62 hk_v0 rfl ?_
      refine g_iload_n (q := 1) C dX5_remove_65 rfl rfl ?_
      refine g_aload_n (q := 0) C dX5_remove_66 rfl rfl ?_
      refine g_getS (v := v0 + 3) C fX5_18 dX5_remove_67 hk_v0 rfl ?_
      refine g_iload_n (q := 1) C dX5_remove_70 rfl rfl ?_
      refine g_iconst C dX5_remove_71 rfl ?_
      refine g_iadd C dX5_remove_72 ?_
      obtain ⟨g9, h⟩ := h
      refine g_iald C dX5_remove_73 (sub_5_3 hk_v0).1 (sub_5_3 hk_v0).2 g9 ?_
      obtain ⟨g10, h⟩ := h
      obtain ⟨M11, e_M11⟩ : ∃ z : Mem, z = up M8 (v0 + 3) v2 (M8 (v0 + 3) (v2 + 1)) := ⟨_, rfl⟩
      have h := h M11 e_M11
      refine g_iast C dX5_remove_74 (sub_5_3 hk_v0).1 (sub_5_3 hk_v0).2 g10 e_M11 ?_
      refine g_iinc (q := 1) (v := v2 + 1) (lv' := [(2, vI (v2 + 1)), (0, vR Y v0)]) C dX5_remove_75 rfl rfl (by decide) rfl ?_
      refine g_goto (tgt := 25) C dX5_remove_78 (by decide) ?_
      refine G.sub [1, 0] rfl ?_
      exact ih _ _ h
set_option maxRecDepth 20000 in
theorem w_X5_remove_J12 {Y : YT} {X : CX} (C : Cx Y X cX5_remove 3 RX5 1) {Q : Mem → Prop} (hR : Rt Y X none (PQv Y Q))   {M : Mem}  (h : m_X5_remove_J12  Q  M) : G Y X 3 12 [] ([]) M := by
  unfold m_X5_remove_J12 at h
  exact g_retv C hR dX5_remove_12 h
set_option maxRecDepth 20000 in
theorem t_X5_remove {l : Launch} {Y : YT} (hY : YOK Y) {o : Int} {a0 : Int} {M : Mem} {Q : Mem → Prop} (h : m_X5_remove o a0 M Q) : Ctr l Y yX5_remove cX5_remove 3 none 1 [vR Y o, vI a0] M (PQv Y Q) := by
  unfold m_X5_remove at h
  obtain ⟨hk_o, h⟩ := h
  refine ctr_ofF hY (by decide +kernel) (Nat.le_of_ble_eq_true rfl) [(0, vR Y o), (1, vI a0)] rfl (fun X hX C hR => ?_)
  refine g_iload_n (q := 1) C dX5_remove_0 rfl rfl ?_
  obtain ⟨g12, h⟩ := h
  obtain ⟨ht, hf⟩ := h
  refine g_if_lt (tgt := 12) C dX5_remove_1 (by decide) g12 (fun c => ?_) (fun c => ?_)
  · have h := ht c
    refine G.sub [] rfl ?_
    exact w_X5_remove_J12 C hR  h
  · have h := hf c
    refine g_iload_n (q := 1) C dX5_remove_4 rfl rfl ?_
    refine g_aload_n (q := 0) C dX5_remove_5 rfl rfl ?_
    refine g_getI C fX5_21 (by decide) dX5_remove_6 hk_o ?_
    obtain ⟨g13, h⟩ := h
    obtain ⟨g14, h⟩ := h
    obtain ⟨ht, hf⟩ := h
    refine g_icmp_lt (tgt := 13) C dX5_remove_9 (by decide) g13 g14 (fun c => ?_) (fun c => ?_)
    · have h := ht c
      refine g_aload_n (q := 0) C dX5_remove_13 rfl rfl ?_
      refine g_dup C dX5_remove_14 rfl ?_
      refine g_getI C fX5_21 (by decide) dX5_remove_15 hk_o ?_
      refine g_iconst C dX5_remove_18 rfl ?_
      refine g_isub C dX5_remove_19 ?_
      obtain ⟨M15, e_M15⟩ : ∃ z : Mem, z = up M o 0 ((M o 0) - 1) := ⟨_, rfl⟩
      have h := h M15 e_M15
      refine g_putI C fX5_21 pX5_21 dX5_remove_20 hk_o e_M15 ?_
      refine g_iload_n (q := 1) C dX5_remove_23 rfl rfl ?_
      refine g_istore_n (lv' := [(2, vI a0), (0, vR Y o), (1, vI a0)]) C dX5_remove_24 rfl (by decide) rfl ?_
      obtain ⟨f0, h⟩ := h
      refine G.sub [1, 0] rfl ?_
      exact w_X5_remove_L25 C hR hk_o f0 _ _ h
    · have h := hf c
      refine G.sub [] rfl ?_
      exact w_X5_remove_J12 C hR  h
set_option maxRecDepth 20000 in
theorem t_X6_beginIn {l : Launch} {Y : YT} (hY : YOK Y) {o : Int} {a0 : Int} {M : Mem} {Q : Mem → Prop} (h : m_X6_beginIn o a0 M Q) : Ctr l Y yX6_beginIn cX6_beginIn 2 none 3 [vR Y o, vR Y a0] M (PQv Y Q) := by
  unfold m_X6_beginIn at h
  obtain ⟨hk_o, h⟩ := h
  obtain ⟨hk_a0, h⟩ := h
  refine ctr_ofF hY (by decide +kernel) (Nat.le_of_ble_eq_true rfl) [(0, vR Y o), (1, vR Y a0)] rfl (fun X hX C hR => ?_)
  refine g_aload_n (q := 0) C dX6_beginIn_0 rfl rfl ?_
  refine g_iconst C dX6_beginIn_1 rfl ?_
  obtain ⟨M1, e_M1⟩ : ∃ z : Mem, z = up M o 0 0 := ⟨_, rfl⟩
  have h := h M1 e_M1
  refine g_putI C fX6_22 pX6_22 dX6_beginIn_2 hk_o e_M1 ?_
  refine g_aload_n (q := 1) C dX6_beginIn_5 rfl rfl ?_
  refine g_getS (v := a0 + 5) C fX6_26 dX6_beginIn_6 hk_a0 rfl ?_
  refine g_iconst C dX6_beginIn_9 rfl ?_
  refine g_aload_n (q := 0) C dX6_beginIn_10 rfl rfl ?_
  refine g_getS (v := o + 1) C fX6_9 dX6_beginIn_11 hk_o rfl ?_
  refine g_iconst C dX6_beginIn_14 rfl ?_
  refine g_bipush (v := 6) C dX6_beginIn_15 (by decide +kernel) ?_
  obtain ⟨g2, h⟩ := h
  obtain ⟨g3, h⟩ := h
  obtain ⟨g4, h⟩ := h
  obtain ⟨M5, e_M5⟩ : ∃ z : Mem, z = cpy M1 (a0 + 5) 0 (o + 1) 0 6 := ⟨_, rfl⟩
  have h := h M5 e_M5
  refine g_copy C acX6_31 ac_n ac_s ac_i dX6_beginIn_17 (sub_8_7 hk_a0).1 (sub_6_1 hk_o).1 g2 (sub_8_7 hk_a0).2 (sub_6_1 hk_o).2 g3 g4 e_M5 (Nat.le_of_ble_eq_true rfl) (by decide) ?_
  refine g_aload_n (q := 0) C dX6_beginIn_20 rfl rfl ?_
  refine g_aload_n (q := 1) C dX6_beginIn_21 rfl rfl ?_
  refine g_getI C fX6_37 (by decide) dX6_beginIn_22 hk_a0 ?_
  obtain ⟨M6, e_M6⟩ : ∃ z : Mem, z = up M5 o 2 (M5 a0 9) := ⟨_, rfl⟩
  have h := h M6 e_M6
  refine g_putI C fX6_40 pX6_40 dX6_beginIn_25 hk_o e_M6 ?_
  refine g_aload_n (q := 0) C dX6_beginIn_28 rfl rfl ?_
  refine g_getS (v := o + 2) C fX6_18 dX6_beginIn_29 hk_o rfl ?_
  refine g_aload_n (q := 1) C dX6_beginIn_32 rfl rfl ?_
  refine g_getS (v := a0 + 7) C fX6_41 dX6_beginIn_33 hk_a0 rfl ?_
  refine g_cVv (As := [vR Y (a0 + 7)]) C clX6_42 clvX5_copy dX6_beginIn_36 (sub_6_3 hk_o) rfl (Nat.le_of_ble_eq_true rfl) rfl (by decide) (t_X5_copy (Cx.ok C) h) (fun M7 h => ?_)
  refine g_aload_n (q := 0) C dX6_beginIn_39 rfl rfl ?_
  refine g_iconst C dX6_beginIn_40 rfl ?_
  obtain ⟨M8, e_M8⟩ : ∃ z : Mem, z = up M7 o 4 0 := ⟨_, rfl⟩
  have h := h M8 e_M8
  refine g_putI C fX6_46 pX6_46 dX6_beginIn_41 hk_o e_M8 ?_
  exact g_retv C hR dX6_beginIn_44 h
set_option maxRecDepth 20000 in
theorem w_X6_hasSpotsOf_L2 {Y : YT} {X : CX} (C : Cx Y X cX6_hasSpotsOf 4 RX6 1) {Q : Int → Mem → Prop} (hR : Rt Y X (some .boolean) (PQi Y Q)) {v0 : Int} {v1 : Int} {v2 : Int}  (hk_v0 : kd v0 = 6) (hk_v1 : kd v1 = 6): ∀ (f : Nat) (v3 : Int) (M : Mem), m_X6_hasSpotsOf_L2  Q v0 v1 v2 f v3 M → G Y X 4 2 [(0, vR Y v0), (1, vR Y v1), (2, vI v2), (3, vI v3)] ([]) M := by
  intro f
  induction f with
  | zero =>
    intro v3 M h
    exact (show False from h).elim
  | succ f ih =>
    intro v3 M h
    unfold m_X6_hasSpotsOf_L2 at h
    refine g_iload_n (q := 3) C dX6_hasSpotsOf_2 rfl rfl ?_
    refine g_iload_n (q := 2) C dX6_hasSpotsOf_3 rfl rfl ?_
    obtain ⟨g1, h⟩ := h
    obtain ⟨g2, h⟩ := h
    obtain ⟨ht, hf⟩ := h
    refine g_icmp_ge (tgt := 30) C dX6_hasSpotsOf_4 (by decide) g1 g2 (fun c => ?_) (fun c => ?_)
    · have h := ht c
      refine g_iconst C dX6_hasSpotsOf_30 rfl ?_
      exact g_retz C hR dX6_hasSpotsOf_31 (by decide) h
    · have h := hf c
      refine g_aload_n (q := 0) C dX6_hasSpotsOf_7 rfl rfl ?_
      refine g_getS (v := v0 + 1) C fX6_9 dX6_hasSpotsOf_8 hk_v0 rfl ?_
      refine g_iload_n (q := 3) C dX6_hasSpotsOf_11 rfl rfl ?_
      obtain ⟨g3, h⟩ := h
      refine g_iald C dX6_hasSpotsOf_12 (sub_6_1 hk_v0).1 (sub_6_1 hk_v0).2 g3 ?_
      refine g_aload_n (q := 1) C dX6_hasSpotsOf_13 rfl rfl ?_
      refine g_getS (v := v1 + 1) C fX6_9 dX6_hasSpotsOf_14 hk_v1 rfl ?_
      refine g_iload_n (q := 3) C dX6_hasSpotsOf_17 rfl rfl ?_
      obtain ⟨g4, h⟩ := h
      refine g_iald C dX6_hasSpotsOf_18 (sub_6_1 hk_v1).1 (sub_6_1 hk_v1).2 g4 ?_
      obtain ⟨g5, h⟩ := h
      obtain ⟨g6, h⟩ := h
      obtain ⟨ht, hf⟩ := h
      refine g_icmp_eq (tgt := 24) C dX6_hasSpotsOf_19 (by decide) g5 g6 (fun c => ?_) (fun c => ?_)
      · have h := ht c
        refine g_iinc (q := 3) (v := v3 + 1) (lv' := [(3, vI (v3 + 1)), (0, vR Y v0), (1, vR Y v1), (2, vI v2)]) C dX6_hasSpotsOf_24 rfl rfl (by decide) rfl ?_
        refine g_goto (tgt := 2) C dX6_hasSpotsOf_27 (by decide) ?_
        refine G.sub [1, 2, 3, 0] rfl ?_
        exact ih _ _ h
      · have h := hf c
        refine g_iconst C dX6_hasSpotsOf_22 rfl ?_
        exact g_retz C hR dX6_hasSpotsOf_23 (by decide) h
set_option maxRecDepth 20000 in
theorem t_X6_hasSpotsOf {l : Launch} {Y : YT} (hY : YOK Y) {o : Int} {a0 : Int} {a1 : Int} {M : Mem} {Q : Int → Mem → Prop} (h : m_X6_hasSpotsOf o a0 a1 M Q) : Ctr l Y yX6_hasSpotsOf cX6_hasSpotsOf 4 (some .boolean) 1 [vR Y o, vR Y a0, vI a1] M (PQi Y Q) := by
  unfold m_X6_hasSpotsOf at h
  obtain ⟨hk_o, h⟩ := h
  obtain ⟨hk_a0, h⟩ := h
  refine ctr_ofF hY (by decide +kernel) (Nat.le_of_ble_eq_true rfl) [(0, vR Y o), (1, vR Y a0), (2, vI a1)] rfl (fun X hX C hR => ?_)
  refine g_iconst C dX6_hasSpotsOf_0 rfl ?_
  refine g_istore_n (lv' := [(3, vI 0), (0, vR Y o), (1, vR Y a0), (2, vI a1)]) C dX6_hasSpotsOf_1 rfl (by decide) rfl ?_
  obtain ⟨f0, h⟩ := h
  refine G.sub [1, 2, 3, 0] rfl ?_
  exact w_X6_hasSpotsOf_L2 C hR hk_o hk_a0 f0 _ _ h
set_option maxRecDepth 20000 in
theorem t_X10_spotOf {l : Launch} {Y : YT} (hY : YOK Y) {o : Int} {a0 : Int} {a1 : Int} {M : Mem} {Q : Int → Mem → Prop} (h : m_X10_spotOf o a0 a1 M Q) : Ctr l Y yX10_spotOf cX10_spotOf 3 (some .int) 1 [vR Y o, vI a0, vI a1] M (PQi Y Q) := by
  unfold m_X10_spotOf at h
  obtain ⟨hk_o, h⟩ := h
  refine ctr_ofF hY (by decide +kernel) (Nat.le_of_ble_eq_true rfl) [(0, vR Y o), (1, vI a0), (2, vI a1)] rfl (fun X hX C hR => ?_)
  refine g_aload_n (q := 0) C dX10_spotOf_0 rfl rfl ?_
  refine g_getS (v := o + 1) C fX10_9 dX10_spotOf_1 hk_o rfl ?_
  refine g_bipush (v := 6) C dX10_spotOf_4 (by decide +kernel) ?_
  refine g_iload_n (q := 2) C dX10_spotOf_6 rfl rfl ?_
  refine g_imul C dX10_spotOf_7 ?_
  refine g_iload_n (q := 1) C dX10_spotOf_8 rfl rfl ?_
  refine g_iadd C dX10_spotOf_9 ?_
  obtain ⟨g1, h⟩ := h
  refine g_iald C dX10_spotOf_10 (sub_10_0 hk_o).1 (sub_10_0 hk_o).2 g1 ?_
  exact g_reti C hR dX10_spotOf_11 h
set_option maxRecDepth 20000 in
theorem w_X6_passInto_L2 {Y : YT} {X : CX} (C : Cx Y X cX6_passInto 3 RX6 2) {Q : Mem → Prop} (hR : Rt Y X none (PQv Y Q)) {v0 : Int} {v1 : Int}  (hk_v0 : kd v0 = 6) (hk_v1 : kd v1 = 10): ∀ (f : Nat) (v2 : Int) (M : Mem), m_X6_passInto_L2  Q v0 v1 f v2 M → G Y X 3 2 [(0, vR Y v0), (1, vR Y v1), (2, vI v2)] ([]) M := by
  intro f
  induction f with
  | zero =>
    intro v2 M h
    exact (show False from h).elim
  | succ f ih =>
    intro v2 M h
    unfold m_X6_passInto_L2 at h
    refine g_iload_n (q := 2) C dX6_passInto_2 rfl rfl ?_
    refine g_bipush (v := 6) C dX6_passInto_3 (by decide +kernel) ?_
    obtain ⟨g1, h⟩ := h
    obtain ⟨ht, hf⟩ := h
    refine g_icmp_ge (tgt := 27) C dX6_passInto_5 (by decide) g1 (by decide) (fun c => ?_) (fun c => ?_)
    · have h := ht c
      refine g_aload_n (q := 0) C dX6_passInto_27 rfl rfl ?_
      refine g_getS (v := v0 + 2) C fX6_18 dX6_passInto_28 hk_v0 rfl ?_
      refine g_iconst C dX6_passInto_31 rfl ?_
      obtain ⟨M2, e_M2⟩ : ∃ z : Mem, z = up M (v0 + 2) 0 0 := ⟨_, rfl⟩
      have h := h M2 e_M2
      refine g_putI C fX6_55 pX6_55 dX6_passInto_32 (sub_6_3 hk_v0) e_M2 ?_
      refine g_aload_n (q := 0) C dX6_passInto_35 rfl rfl ?_
      refine g_dup C dX6_passInto_36 rfl ?_
      refine g_getI C fX6_22 (by decide) dX6_passInto_37 hk_v0 ?_
      refine g_iconst C dX6_passInto_40 rfl ?_
      refine g_iadd C dX6_passInto_41 ?_
      obtain ⟨M3, e_M3⟩ : ∃ z : Mem, z = up M2 v0 0 ((M2 v0 0) + 1) := ⟨_, rfl⟩
      have h := h M3 e_M3
      refine g_putI C fX6_22 pX6_22 dX6_passInto_42 hk_v0 e_M3 ?_
      exact g_retv C hR dX6_passInto_45 h
    · have h := hf c
      refine g_aload_n (q := 0) C dX6_passInto_8 rfl rfl ?_
      refine g_getS (v := v0 + 1) C fX6_9 dX6_passInto_9 hk_v0 rfl ?_
      refine g_iload_n (q := 2) C dX6_passInto_12 rfl rfl ?_
      refine g_aload_n (q := 1) C dX6_passInto_13 rfl rfl ?_
      refine g_iload_n (q := 2) C dX6_passInto_14 rfl rfl ?_
      refine g_bipush (v := 8) C dX6_passInto_15 (by decide +kernel) ?_
      refine g_cVi (As := [vI v2, vI 8]) C clX6_49 clvX10_spotOf dX6_passInto_17 hk_v1 rfl (Nat.le_of_ble_eq_true rfl) rfl (by decide) (t_X10_spotOf (Cx.ok C) h) (fun r5 M4 h => ?_)
      obtain ⟨g6, h⟩ := h
      obtain ⟨M7, e_M7⟩ : ∃ z : Mem, z = up M4 (v0 + 1) v2 r5 := ⟨_, rfl⟩
      have h := h M7 e_M7
      refine g_iast C dX6_passInto_20 (sub_6_1 hk_v0).1 (sub_6_1 hk_v0).2 g6 e_M7 ?_
      refine g_iinc (q := 2) (v := v2 + 1) (lv' := [(2, vI (v2 + 1)), (0, vR Y v0), (1, vR Y v1)]) C dX6_passInto_21 rfl rfl (by decide) rfl ?_
      refine g_goto (tgt := 2) C dX6_passInto_24 (by decide) ?_
      refine G.sub [1, 2, 0] rfl ?_
      exact ih _ _ h
set_option maxRecDepth 20000 in
theorem t_X6_passInto {l : Launch} {Y : YT} (hY : YOK Y) {o : Int} {a0 : Int} {M : Mem} {Q : Mem → Prop} (h : m_X6_passInto o a0 M Q) : Ctr l Y yX6_passInto cX6_passInto 3 none 2 [vR Y o, vR Y a0] M (PQv Y Q) := by
  unfold m_X6_passInto at h
  obtain ⟨hk_o, h⟩ := h
  obtain ⟨hk_a0, h⟩ := h
  refine ctr_ofF hY (by decide +kernel) (Nat.le_of_ble_eq_true rfl) [(0, vR Y o), (1, vR Y a0)] rfl (fun X hX C hR => ?_)
  refine g_iconst C dX6_passInto_0 rfl ?_
  refine g_istore_n (lv' := [(2, vI 0), (0, vR Y o), (1, vR Y a0)]) C dX6_passInto_1 rfl (by decide) rfl ?_
  obtain ⟨f0, h⟩ := h
  refine G.sub [1, 2, 0] rfl ?_
  exact w_X6_passInto_L2 C hR hk_o hk_a0 f0 _ _ h
set_option maxRecDepth 20000 in
theorem t_X7_letterOf {l : Launch} {Y : YT} (hY : YOK Y) {a0 : Int} {a1 : Int} {M : Mem} {Q : Int → Mem → Prop} (h : m_X7_letterOf a0 a1 M Q) : Ctr l Y yX7_letterOf cX7_letterOf 2 (some .int) 1 [vI a0, vI a1] M (PQi Y Q) := by
  unfold m_X7_letterOf at h
  refine ctr_ofF hY (by decide +kernel) (Nat.le_of_ble_eq_true rfl) [(0, vI a0), (1, vI a1)] rfl (fun X hX C hR => ?_)
  refine g_iload_n (q := 0) C dX7_letterOf_0 rfl rfl ?_
  refine g_iconst C dX7_letterOf_1 rfl ?_
  refine g_iconst C dX7_letterOf_2 rfl ?_
  refine g_iload_n (q := 1) C dX7_letterOf_3 rfl rfl ?_
  refine g_isub C dX7_letterOf_4 ?_
  refine g_imul C dX7_letterOf_5 ?_
  refine g_ishr C dX7_letterOf_6 ?_
  refine g_bipush (v := 31) C dX7_letterOf_7 (by decide +kernel) ?_
  refine g_iand C dX7_letterOf_9 ?_
  exact g_reti C hR dX7_letterOf_10 h
set_option maxRecDepth 20000 in
theorem w_X7_add_J49 {Y : YT} {X : CX} (C : Cx Y X cX7_add 3 RX7 1) {Q : Mem → Prop} (hR : Rt Y X none (PQv Y Q))   {M : Mem}  (h : m_X7_add_J49  Q  M) : G Y X 3 49 [] ([]) M := by
  unfold m_X7_add_J49 at h
  exact g_retv C hR dX7_add_49 h
set_option maxRecDepth 20000 in
theorem w_X7_add_L3 {Y : YT} {X : CX} (C : Cx Y X cX7_add 3 RX7 1) {Q : Mem → Prop} (hR : Rt Y X none (PQv Y Q)) {v1 : Int}  : ∀ (f : Nat) (v2 : Int) (M : Mem), m_X7_add_L3  Q v1 f v2 M → G Y X 3 3 [(0, vR Y 1), (1, vI v1), (2, vI v2)] ([]) M := by
  intro f
  induction f with
  | zero =>
    intro v2 M h
    exact (show False from h).elim
  | succ f ih =>
    intro v2 M h
    unfold m_X7_add_L3 at h
    refine g_iload_n (q := 2) C dX7_add_3 rfl rfl ?_
    obtain ⟨g1, h⟩ := h
    obtain ⟨ht, hf⟩ := h
    refine g_if_lt (tgt := 49) C dX7_add_4 (by decide) g1 (fun c => ?_) (fun c => ?_)
    · have h := ht c
      refine G.sub [] rfl ?_
      exact w_X7_add_J49 C hR  h
    · have h := hf c
      refine g_aload_n (q := 0) C dX7_add_7 rfl rfl ?_
      refine g_getI C fX7_34 (by decide) dX7_add_8 kd_1 ?_
      refine g_sipush (v := 1600) C dX7_add_11 (by decide +kernel) ?_
      obtain ⟨g2, h⟩ := h
      obtain ⟨ht, hf⟩ := h
      refine g_icmp_ge (tgt := 49) C dX7_add_14 (by decide) g2 (by decide) (fun c => ?_) (fun c => ?_)
      · have h := ht c
        refine G.sub [] rfl ?_
        exact w_X7_add_J49 C hR  h
      · have h := hf c
        refine g_aload_n (q := 0) C dX7_add_17 rfl rfl ?_
        refine g_getS (v := 2) C fX7_9 dX7_add_18 kd_1 rfl ?_
        refine g_aload_n (q := 0) C dX7_add_21 rfl rfl ?_
        refine g_getI C fX7_34 (by decide) dX7_add_22 kd_1 ?_
        refine g_iload_n (q := 1) C dX7_add_25 rfl rfl ?_
        refine g_iload_n (q := 2) C dX7_add_26 rfl rfl ?_
        refine g_iushr C dX7_add_27 ?_
        refine g_sipush (v := 255) C dX7_add_28 (by decide +kernel) ?_
        refine g_iand C dX7_add_31 ?_
        obtain ⟨g3, h⟩ := h
        obtain ⟨M4, e_M4⟩ : ∃ z : Mem, z = up M 2 (M 1 1) (zand (zushr v1 v2) 255) := ⟨_, rfl⟩
        have h := h M4 e_M4
        refine g_iast C dX7_add_32 kd_2 ln_2 g3 e_M4 ?_
        refine g_aload_n (q := 0) C dX7_add_33 rfl rfl ?_
        refine g_dup C dX7_add_34 rfl ?_
        refine g_getI C fX7_34 (by decide) dX7_add_35 kd_1 ?_
        refine g_iconst C dX7_add_38 rfl ?_
        refine g_iadd C dX7_add_39 ?_
        obtain ⟨M5, e_M5⟩ : ∃ z : Mem, z = up M4 1 1 ((M4 1 1) + 1) := ⟨_, rfl⟩
        have h := h M5 e_M5
        refine g_putI C fX7_34 pX7_34 dX7_add_40 kd_1 e_M5 ?_
        refine g_iinc (q := 2) (v := v2 + (-8)) (lv' := [(2, vI (v2 + (-8))), (0, vR Y 1), (1, vI v1)]) C dX7_add_43 rfl rfl (by decide) rfl ?_
        refine g_goto (tgt := 3) C dX7_add_46 (by decide) ?_
        refine G.sub [1, 2, 0] rfl ?_
        exact ih _ _ h
set_option maxRecDepth 20000 in
theorem t_X7_add {l : Launch} {Y : YT} (hY : YOK Y) {a0 : Int} {M : Mem} {Q : Mem → Prop} (h : m_X7_add a0 M Q) : Ctr l Y yX7_add cX7_add 3 none 1 [vR Y 1, vI a0] M (PQv Y Q) := by
  unfold m_X7_add at h
  refine ctr_ofF hY (by decide +kernel) (Nat.le_of_ble_eq_true rfl) [(0, vR Y 1), (1, vI a0)] rfl (fun X hX C hR => ?_)
  refine g_bipush (v := 24) C dX7_add_0 (by decide +kernel) ?_
  refine g_istore_n (lv' := [(2, vI 24), (0, vR Y 1), (1, vI a0)]) C dX7_add_2 rfl (by decide) rfl ?_
  obtain ⟨f0, h⟩ := h
  refine G.sub [1, 2, 0] rfl ?_
  exact w_X7_add_L3 C hR  f0 _ _ h
