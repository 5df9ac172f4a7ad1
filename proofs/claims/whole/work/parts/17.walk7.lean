theorem dX11_chance_0 : decode cX11_chance 0 = .ok (.iload_n 1, 1) := by decide +kernel
theorem dX11_chance_1 : decode cX11_chance 1 = .ok (.iconst 1, 1) := by decide +kernel
theorem dX11_chance_2 : decode cX11_chance 2 = .ok (.if_icmp .lt 11, 3) := by decide +kernel
theorem dX11_chance_5 : decode cX11_chance 5 = .ok (.iload_n 1, 1) := by decide +kernel
theorem dX11_chance_6 : decode cX11_chance 6 = .ok (.aload_n 0, 1) := by decide +kernel
theorem dX11_chance_7 : decode cX11_chance 7 = .ok (.invokevirtual 249, 3) := by decide +kernel
theorem dX11_chance_10 : decode cX11_chance 10 = .ok (.if_icmp .le 9, 3) := by decide +kernel
theorem dX11_chance_13 : decode cX11_chance 13 = .ok (.aload_n 0, 1) := by decide +kernel
theorem dX11_chance_14 : decode cX11_chance 14 = .ok (.iconst 2, 1) := by decide +kernel
theorem dX11_chance_15 : decode cX11_chance 15 = .ok (.invokevirtual 87, 3) := by decide +kernel
theorem dX11_chance_18 : decode cX11_chance 18 = .ok (.ireturn, 1) := by decide +kernel
theorem dX11_chance_19 : decode cX11_chance 19 = .ok (.aload_n 0, 1) := by decide +kernel
theorem dX11_chance_20 : decode cX11_chance 20 = .ok (.getfield 58, 3) := by decide +kernel
theorem dX11_chance_23 : decode cX11_chance 23 = .ok (.aload_n 0, 1) := by decide +kernel
theorem dX11_chance_24 : decode cX11_chance 24 = .ok (.getfield 38, 3) := by decide +kernel
theorem dX11_chance_27 : decode cX11_chance 27 = .ok (.invokevirtual 283, 3) := by decide +kernel
theorem dX11_chance_30 : decode cX11_chance 30 = .ok (.iconst 0, 1) := by decide +kernel
theorem dX11_chance_31 : decode cX11_chance 31 = .ok (.istore_n 2, 1) := by decide +kernel
theorem dX11_chance_32 : decode cX11_chance 32 = .ok (.iconst 0, 1) := by decide +kernel
theorem dX11_chance_33 : decode cX11_chance 33 = .ok (.istore_n 3, 1) := by decide +kernel
theorem dX11_chance_34 : decode cX11_chance 34 = .ok (.iload_n 3, 1) := by decide +kernel
theorem dX11_chance_35 : decode cX11_chance 35 = .ok (.iload_n 1, 1) := by decide +kernel
theorem dX11_chance_36 : decode cX11_chance 36 = .ok (.if_icmp .ge 32, 3) := by decide +kernel
theorem dX11_chance_39 : decode cX11_chance 39 = .ok (.iload_n 2, 1) := by decide +kernel
theorem dX11_chance_40 : decode cX11_chance 40 = .ok (.aload_n 0, 1) := by decide +kernel
theorem dX11_chance_41 : decode cX11_chance 41 = .ok (.invokevirtual 289, 3) := by decide +kernel
theorem dX11_chance_44 : decode cX11_chance 44 = .ok (.ifCond .eq 7, 3) := by decide +kernel
theorem dX11_chance_47 : decode cX11_chance 47 = .ok (.iconst 1, 1) := by decide +kernel
theorem dX11_chance_48 : decode cX11_chance 48 = .ok (.goto 4, 3) := by decide +kernel
theorem dX11_chance_51 : decode cX11_chance 51 = .ok (.iconst 0, 1) := by decide +kernel
theorem dX11_chance_52 : decode cX11_chance 52 = .ok (.iadd, 1) := by decide +kernel
theorem dX11_chance_53 : decode cX11_chance 53 = .ok (.istore_n 2, 1) := by decide +kernel
theorem dX11_chance_54 : decode cX11_chance 54 = .ok (.aload_n 0, 1) := by decide +kernel
theorem dX11_chance_55 : decode cX11_chance 55 = .ok (.aload_n 0, 1) := by decide +kernel
theorem dX11_chance_56 : decode cX11_chance 56 = .ok (.invokevirtual 152, 3) := by decide +kernel
theorem dX11_chance_59 : decode cX11_chance 59 = .ok (.invokevirtual 286, 3) := by decide +kernel
theorem dX11_chance_62 : decode cX11_chance 62 = .ok (.iinc 3 1, 3) := by decide +kernel
theorem dX11_chance_65 : decode cX11_chance 65 = .ok (.goto (-31), 3) := by decide +kernel
theorem dX11_chance_68 : decode cX11_chance 68 = .ok (.iload_n 2, 1) := by decide +kernel
theorem dX11_chance_69 : decode cX11_chance 69 = .ok (.ireturn, 1) := by decide +kernel
theorem dX11_act_0 : decode cX11_act 0 = .ok (.aload_n 0, 1) := by decide +kernel
theorem dX11_act_1 : decode cX11_act 1 = .ok (.getfield 58, 3) := by decide +kernel
theorem dX11_act_4 : decode cX11_act 4 = .ok (.aload_n 0, 1) := by decide +kernel
theorem dX11_act_5 : decode cX11_act 5 = .ok (.getfield 38, 3) := by decide +kernel
theorem dX11_act_8 : decode cX11_act 8 = .ok (.invokevirtual 283, 3) := by decide +kernel
theorem dX11_act_11 : decode cX11_act 11 = .ok (.aload_n 0, 1) := by decide +kernel
theorem dX11_act_12 : decode cX11_act 12 = .ok (.iconst 0, 1) := by decide +kernel
theorem dX11_act_13 : decode cX11_act 13 = .ok (.putfield 113, 3) := by decide +kernel
theorem dX11_act_16 : decode cX11_act 16 = .ok (.return_, 1) := by decide +kernel
theorem dX11_show_0 : decode cX11_show 0 = .ok (.aload_n 0, 1) := by decide +kernel
theorem dX11_show_1 : decode cX11_show 1 = .ok (.getfield 38, 3) := by decide +kernel
theorem dX11_show_4 : decode cX11_show 4 = .ok (.getfield 135, 3) := by decide +kernel
theorem dX11_show_7 : decode cX11_show 7 = .ok (.astore 4, 2) := by decide +kernel
theorem dX11_show_9 : decode cX11_show 9 = .ok (.iload_n 1, 1) := by decide +kernel
theorem dX11_show_10 : decode cX11_show 10 = .ok (.invokestatic 221, 3) := by decide +kernel
theorem dX11_show_13 : decode cX11_show 13 = .ok (.ifCond .eq 42, 3) := by decide +kernel
theorem dX11_show_16 : decode cX11_show 16 = .ok (.aload_n 0, 1) := by decide +kernel
theorem dX11_show_17 : decode cX11_show 17 = .ok (.iload_n 2, 1) := by decide +kernel
theorem dX11_show_18 : decode cX11_show 18 = .ok (.invokevirtual 167, 3) := by decide +kernel
theorem dX11_show_21 : decode cX11_show 21 = .ok (.ifCond .eq 34, 3) := by decide +kernel
theorem dX11_show_24 : decode cX11_show 24 = .ok (.iload_n 3, 1) := by decide +kernel
theorem dX11_show_25 : decode cX11_show 25 = .ok (.ifCond .lt 30, 3) := by decide +kernel
theorem dX11_show_28 : decode cX11_show 28 = .ok (.iload_n 3, 1) := by decide +kernel
theorem dX11_show_29 : decode cX11_show 29 = .ok (.bipush 6, 2) := by decide +kernel
theorem dX11_show_31 : decode cX11_show 31 = .ok (.if_icmp .gt 24, 3) := by decide +kernel
theorem dX11_show_34 : decode cX11_show 34 = .ok (.aload 4, 2) := by decide +kernel
theorem dX11_show_36 : decode cX11_show 36 = .ok (.getfield 139, 3) := by decide +kernel
theorem dX11_show_39 : decode cX11_show 39 = .ok (.bipush 8, 2) := by decide +kernel
theorem dX11_show_41 : decode cX11_show 41 = .ok (.if_icmp .ge 14, 3) := by decide +kernel
theorem dX11_show_44 : decode cX11_show 44 = .ok (.aload 4, 2) := by decide +kernel
theorem dX11_show_46 : decode cX11_show 46 = .ok (.iload_n 1, 1) := by decide +kernel
theorem dX11_show_47 : decode cX11_show 47 = .ok (.iload_n 2, 1) := by decide +kernel
theorem dX11_show_48 : decode cX11_show 48 = .ok (.invokevirtual 293, 3) := by decide +kernel
theorem dX11_show_51 : decode cX11_show 51 = .ok (.iconst (-1), 1) := by decide +kernel
theorem dX11_show_52 : decode cX11_show 52 = .ok (.if_icmp .eq 9, 3) := by decide +kernel
theorem dX11_show_55 : decode cX11_show 55 = .ok (.aload_n 0, 1) := by decide +kernel
theorem dX11_show_56 : decode cX11_show 56 = .ok (.iconst 3, 1) := by decide +kernel
theorem dX11_show_57 : decode cX11_show 57 = .ok (.invokevirtual 95, 3) := by decide +kernel
theorem dX11_show_60 : decode cX11_show 60 = .ok (.ireturn, 1) := by decide +kernel
theorem dX11_show_61 : decode cX11_show 61 = .ok (.aload_n 0, 1) := by decide +kernel
theorem dX11_show_62 : decode cX11_show 62 = .ok (.invokevirtual 296, 3) := by decide +kernel
theorem dX11_show_65 : decode cX11_show 65 = .ok (.aload 4, 2) := by decide +kernel
theorem dX11_show_67 : decode cX11_show 67 = .ok (.iload_n 1, 1) := by decide +kernel
theorem dX11_show_68 : decode cX11_show 68 = .ok (.iload_n 2, 1) := by decide +kernel
theorem dX11_show_69 : decode cX11_show 69 = .ok (.iload_n 3, 1) := by decide +kernel
theorem dX11_show_70 : decode cX11_show 70 = .ok (.invokevirtual 228, 3) := by decide +kernel
theorem dX11_show_73 : decode cX11_show 73 = .ok (.iconst 1, 1) := by decide +kernel
theorem dX11_show_74 : decode cX11_show 74 = .ok (.ireturn, 1) := by decide +kernel
theorem dX11_cut_0 : decode cX11_cut 0 = .ok (.aload_n 0, 1) := by decide +kernel
theorem dX11_cut_1 : decode cX11_cut 1 = .ok (.iload_n 1, 1) := by decide +kernel
theorem dX11_cut_2 : decode cX11_cut 2 = .ok (.invokevirtual 195, 3) := by decide +kernel
theorem dX11_cut_5 : decode cX11_cut 5 = .ok (.ifCond .ne 9, 3) := by decide +kernel
theorem dX11_cut_8 : decode cX11_cut 8 = .ok (.aload_n 0, 1) := by decide +kernel
theorem dX11_cut_9 : decode cX11_cut 9 = .ok (.iconst 3, 1) := by decide +kernel
theorem dX11_cut_10 : decode cX11_cut 10 = .ok (.invokevirtual 95, 3) := by decide +kernel
theorem dX11_cut_13 : decode cX11_cut 13 = .ok (.ireturn, 1) := by decide +kernel
theorem dX11_cut_14 : decode cX11_cut 14 = .ok (.aload_n 0, 1) := by decide +kernel
theorem dX11_cut_15 : decode cX11_cut 15 = .ok (.invokevirtual 296, 3) := by decide +kernel
theorem dX11_cut_18 : decode cX11_cut 18 = .ok (.aload_n 0, 1) := by decide +kernel
theorem dX11_cut_19 : decode cX11_cut 19 = .ok (.getfield 38, 3) := by decide +kernel
theorem dX11_cut_22 : decode cX11_cut 22 = .ok (.getfield 135, 3) := by decide +kernel
theorem dX11_cut_25 : decode cX11_cut 25 = .ok (.iload_n 1, 1) := by decide +kernel
theorem dX11_cut_26 : decode cX11_cut 26 = .ok (.invokevirtual 299, 3) := by decide +kernel
theorem dX11_cut_29 : decode cX11_cut 29 = .ok (.iconst 1, 1) := by decide +kernel
theorem dX11_cut_30 : decode cX11_cut 30 = .ok (.ireturn, 1) := by decide +kernel
theorem dX11_watch_0 : decode cX11_watch 0 = .ok (.aload_n 0, 1) := by decide +kernel
theorem dX11_watch_1 : decode cX11_watch 1 = .ok (.iload_n 1, 1) := by decide +kernel
theorem dX11_watch_2 : decode cX11_watch 2 = .ok (.invokevirtual 177, 3) := by decide +kernel
theorem dX11_watch_5 : decode cX11_watch 5 = .ok (.ifCond .eq 33, 3) := by decide +kernel
theorem dX11_watch_8 : decode cX11_watch 8 = .ok (.iload_n 2, 1) := by decide +kernel
theorem dX11_watch_9 : decode cX11_watch 9 = .ok (.ifCond .lt 29, 3) := by decide +kernel
theorem dX11_watch_12 : decode cX11_watch 12 = .ok (.iload_n 2, 1) := by decide +kernel
theorem dX11_watch_13 : decode cX11_watch 13 = .ok (.iconst 1, 1) := by decide +kernel
theorem dX11_watch_14 : decode cX11_watch 14 = .ok (.if_icmp .gt 24, 3) := by decide +kernel
theorem dX11_watch_17 : decode cX11_watch 17 = .ok (.aload_n 0, 1) := by decide +kernel
theorem dX11_watch_18 : decode cX11_watch 18 = .ok (.getfield 38, 3) := by decide +kernel
theorem dX11_watch_21 : decode cX11_watch 21 = .ok (.iload_n 1, 1) := by decide +kernel
theorem dX11_watch_22 : decode cX11_watch 22 = .ok (.invokevirtual 192, 3) := by decide +kernel
theorem dX11_watch_25 : decode cX11_watch 25 = .ok (.iload_n 2, 1) := by decide +kernel
theorem dX11_watch_26 : decode cX11_watch 26 = .ok (.iconst 1, 1) := by decide +kernel
theorem dX11_watch_27 : decode cX11_watch 27 = .ok (.if_icmp .ne 7, 3) := by decide +kernel
theorem dX11_watch_30 : decode cX11_watch 30 = .ok (.iconst 1, 1) := by decide +kernel
theorem dX11_watch_31 : decode cX11_watch 31 = .ok (.goto 4, 3) := by decide +kernel
theorem dX11_watch_34 : decode cX11_watch 34 = .ok (.iconst 0, 1) := by decide +kernel
theorem dX11_watch_35 : decode cX11_watch 35 = .ok (.if_icmp .ne 9, 3) := by decide +kernel
theorem dX11_watch_38 : decode cX11_watch 38 = .ok (.aload_n 0, 1) := by decide +kernel
theorem dX11_watch_39 : decode cX11_watch 39 = .ok (.iconst 3, 1) := by decide +kernel
theorem dX11_watch_40 : decode cX11_watch 40 = .ok (.invokevirtual 95, 3) := by decide +kernel
theorem dX11_watch_43 : decode cX11_watch 43 = .ok (.ireturn, 1) := by decide +kernel
theorem dX11_watch_44 : decode cX11_watch 44 = .ok (.aload_n 0, 1) := by decide +kernel
theorem dX11_watch_45 : decode cX11_watch 45 = .ok (.invokevirtual 296, 3) := by decide +kernel
theorem dX11_watch_48 : decode cX11_watch 48 = .ok (.aload_n 0, 1) := by decide +kernel
theorem dX11_watch_49 : decode cX11_watch 49 = .ok (.getfield 38, 3) := by decide +kernel
theorem dX11_watch_52 : decode cX11_watch 52 = .ok (.dup, 1) := by decide +kernel
theorem dX11_watch_53 : decode cX11_watch 53 = .ok (.getfield 144, 3) := by decide +kernel
theorem dX11_watch_56 : decode cX11_watch 56 = .ok (.iconst 1, 1) := by decide +kernel
theorem dX11_watch_57 : decode cX11_watch 57 = .ok (.iload_n 1, 1) := by decide +kernel
theorem dX11_watch_58 : decode cX11_watch 58 = .ok (.ishl, 1) := by decide +kernel
theorem dX11_watch_59 : decode cX11_watch 59 = .ok (.ixor, 1) := by decide +kernel
theorem dX11_watch_60 : decode cX11_watch 60 = .ok (.putfield 144, 3) := by decide +kernel
theorem dX11_watch_63 : decode cX11_watch 63 = .ok (.iconst 1, 1) := by decide +kernel
theorem dX11_watch_64 : decode cX11_watch 64 = .ok (.ireturn, 1) := by decide +kernel
theorem dX11_send_0 : decode cX11_send 0 = .ok (.aload_n 0, 1) := by decide +kernel
theorem dX11_send_1 : decode cX11_send 1 = .ok (.iload_n 1, 1) := by decide +kernel
theorem dX11_send_2 : decode cX11_send 2 = .ok (.invokevirtual 177, 3) := by decide +kernel
theorem dX11_send_5 : decode cX11_send 5 = .ok (.ifCond .eq 24, 3) := by decide +kernel
theorem dX11_send_8 : decode cX11_send 8 = .ok (.aload_n 0, 1) := by decide +kernel
theorem dX11_send_9 : decode cX11_send 9 = .ok (.iload_n 2, 1) := by decide +kernel
theorem dX11_send_10 : decode cX11_send 10 = .ok (.invokevirtual 167, 3) := by decide +kernel
theorem dX11_send_13 : decode cX11_send 13 = .ok (.ifCond .eq 16, 3) := by decide +kernel
theorem dX11_send_16 : decode cX11_send 16 = .ok (.aload_n 0, 1) := by decide +kernel
theorem dX11_send_17 : decode cX11_send 17 = .ok (.getfield 38, 3) := by decide +kernel
theorem dX11_send_20 : decode cX11_send 20 = .ok (.getfield 186, 3) := by decide +kernel
theorem dX11_send_23 : decode cX11_send 23 = .ok (.iload_n 1, 1) := by decide +kernel
theorem dX11_send_24 : decode cX11_send 24 = .ok (.iaload, 1) := by decide +kernel
theorem dX11_send_25 : decode cX11_send 25 = .ok (.iload_n 2, 1) := by decide +kernel
theorem dX11_send_26 : decode cX11_send 26 = .ok (.if_icmp .ne 9, 3) := by decide +kernel
theorem dX11_send_29 : decode cX11_send 29 = .ok (.aload_n 0, 1) := by decide +kernel
theorem dX11_send_30 : decode cX11_send 30 = .ok (.iconst 3, 1) := by decide +kernel
theorem dX11_send_31 : decode cX11_send 31 = .ok (.invokevirtual 95, 3) := by decide +kernel
theorem dX11_send_34 : decode cX11_send 34 = .ok (.ireturn, 1) := by decide +kernel
theorem dX11_send_35 : decode cX11_send 35 = .ok (.aload_n 0, 1) := by decide +kernel
theorem dX11_send_36 : decode cX11_send 36 = .ok (.invokevirtual 296, 3) := by decide +kernel
theorem dX11_send_39 : decode cX11_send 39 = .ok (.aload_n 0, 1) := by decide +kernel
theorem dX11_send_40 : decode cX11_send 40 = .ok (.getfield 38, 3) := by decide +kernel
theorem dX11_send_43 : decode cX11_send 43 = .ok (.getfield 186, 3) := by decide +kernel
theorem dX11_send_46 : decode cX11_send 46 = .ok (.iload_n 1, 1) := by decide +kernel
theorem dX11_send_47 : decode cX11_send 47 = .ok (.iload_n 2, 1) := by decide +kernel
theorem dX11_send_48 : decode cX11_send 48 = .ok (.iastore, 1) := by decide +kernel
theorem dX11_send_49 : decode cX11_send 49 = .ok (.iconst 1, 1) := by decide +kernel
theorem dX11_send_50 : decode cX11_send 50 = .ok (.ireturn, 1) := by decide +kernel
theorem dX11_undo_0 : decode cX11_undo 0 = .ok (.aload_n 0, 1) := by decide +kernel
theorem dX11_undo_1 : decode cX11_undo 1 = .ok (.getfield 58, 3) := by decide +kernel
theorem dX11_undo_4 : decode cX11_undo 4 = .ok (.aload_n 0, 1) := by decide +kernel
theorem dX11_undo_5 : decode cX11_undo 5 = .ok (.getfield 38, 3) := by decide +kernel
theorem dX11_undo_8 : decode cX11_undo 8 = .ok (.invokevirtual 302, 3) := by decide +kernel
theorem dX11_undo_11 : decode cX11_undo 11 = .ok (.ifCond .ne 9, 3) := by decide +kernel
theorem dX11_undo_14 : decode cX11_undo 14 = .ok (.aload_n 0, 1) := by decide +kernel
theorem dX11_undo_15 : decode cX11_undo 15 = .ok (.iconst 4, 1) := by decide +kernel
theorem dX11_undo_16 : decode cX11_undo 16 = .ok (.invokevirtual 95, 3) := by decide +kernel
theorem dX11_undo_19 : decode cX11_undo 19 = .ok (.ireturn, 1) := by decide +kernel
theorem dX11_undo_20 : decode cX11_undo 20 = .ok (.aload_n 0, 1) := by decide +kernel
theorem dX11_undo_21 : decode cX11_undo 21 = .ok (.iconst 0, 1) := by decide +kernel
theorem dX11_undo_22 : decode cX11_undo 22 = .ok (.putfield 113, 3) := by decide +kernel
theorem dX11_undo_25 : decode cX11_undo 25 = .ok (.iconst 1, 1) := by decide +kernel
theorem dX11_undo_26 : decode cX11_undo 26 = .ok (.ireturn, 1) := by decide +kernel
theorem dX11_seed_0 : decode cX11_seed 0 = .ok (.iload_n 1, 1) := by decide +kernel
theorem dX11_seed_1 : decode cX11_seed 1 = .ok (.ifCond .ge 9, 3) := by decide +kernel
theorem dX11_seed_4 : decode cX11_seed 4 = .ok (.aload_n 0, 1) := by decide +kernel
theorem dX11_seed_5 : decode cX11_seed 5 = .ok (.iconst 5, 1) := by decide +kernel
theorem dX11_seed_6 : decode cX11_seed 6 = .ok (.invokevirtual 95, 3) := by decide +kernel
theorem dX11_seed_9 : decode cX11_seed 9 = .ok (.ireturn, 1) := by decide +kernel
theorem dX11_seed_10 : decode cX11_seed 10 = .ok (.aload_n 0, 1) := by decide +kernel
theorem dX11_seed_11 : decode cX11_seed 11 = .ok (.iload_n 1, 1) := by decide +kernel
theorem dX11_seed_12 : decode cX11_seed 12 = .ok (.putfield 80, 3) := by decide +kernel
theorem dX11_seed_15 : decode cX11_seed 15 = .ok (.iconst 1, 1) := by decide +kernel
theorem dX11_seed_16 : decode cX11_seed 16 = .ok (.ireturn, 1) := by decide +kernel
theorem dX11_kept_0 : decode cX11_kept 0 = .ok (.aload_n 0, 1) := by decide +kernel
theorem dX11_kept_1 : decode cX11_kept 1 = .ok (.invokevirtual 160, 3) := by decide +kernel
theorem dX11_kept_4 : decode cX11_kept 4 = .ok (.istore_n 3, 1) := by decide +kernel
theorem dX11_kept_5 : decode cX11_kept 5 = .ok (.iload_n 1, 1) := by decide +kernel
theorem dX11_kept_6 : decode cX11_kept 6 = .ok (.ifCond .lt 17, 3) := by decide +kernel
theorem dX11_kept_9 : decode cX11_kept 9 = .ok (.iload_n 1, 1) := by decide +kernel
theorem dX11_kept_10 : decode cX11_kept 10 = .ok (.iload_n 3, 1) := by decide +kernel
theorem dX11_kept_11 : decode cX11_kept 11 = .ok (.if_icmp .ge 12, 3) := by decide +kernel
theorem dX11_kept_14 : decode cX11_kept 14 = .ok (.iload_n 2, 1) := by decide +kernel
theorem dX11_kept_15 : decode cX11_kept 15 = .ok (.ifCond .lt 8, 3) := by decide +kernel
theorem dX11_kept_18 : decode cX11_kept 18 = .ok (.iload_n 2, 1) := by decide +kernel
theorem dX11_kept_19 : decode cX11_kept 19 = .ok (.iconst 2, 1) := by decide +kernel
theorem dX11_kept_20 : decode cX11_kept 20 = .ok (.if_icmp .le 5, 3) := by decide +kernel
theorem dX11_kept_23 : decode cX11_kept 23 = .ok (.iconst (-1), 1) := by decide +kernel
theorem dX11_kept_24 : decode cX11_kept 24 = .ok (.ireturn, 1) := by decide +kernel
theorem dX11_kept_25 : decode cX11_kept 25 = .ok (.aload_n 0, 1) := by decide +kernel
theorem dX11_kept_26 : decode cX11_kept 26 = .ok (.getfield 58, 3) := by decide +kernel
theorem dX11_kept_29 : decode cX11_kept 29 = .ok (.aload_n 0, 1) := by decide +kernel
theorem dX11_kept_30 : decode cX11_kept 30 = .ok (.getfield 38, 3) := by decide +kernel
theorem dX11_kept_33 : decode cX11_kept 33 = .ok (.getfield 306, 3) := by decide +kernel
theorem dX11_kept_36 : decode cX11_kept 36 = .ok (.iload_n 3, 1) := by decide +kernel
theorem dX11_kept_37 : decode cX11_kept 37 = .ok (.isub, 1) := by decide +kernel
theorem dX11_kept_38 : decode cX11_kept 38 = .ok (.iload_n 1, 1) := by decide +kernel
theorem dX11_kept_39 : decode cX11_kept 39 = .ok (.iadd, 1) := by decide +kernel
theorem dX11_kept_40 : decode cX11_kept 40 = .ok (.iload_n 2, 1) := by decide +kernel
theorem dX11_kept_41 : decode cX11_kept 41 = .ok (.invokevirtual 309, 3) := by decide +kernel
theorem dX11_kept_44 : decode cX11_kept 44 = .ok (.ireturn, 1) := by decide +kernel
theorem dX11_image_0 : decode cX11_image 0 = .ok (.aload_n 0, 1) := by decide +kernel
theorem dX11_image_1 : decode cX11_image 1 = .ok (.getfield 65, 3) := by decide +kernel
theorem dX11_image_4 : decode cX11_image 4 = .ok (.aload_n 0, 1) := by decide +kernel
theorem dX11_image_5 : decode cX11_image 5 = .ok (.getfield 28, 3) := by decide +kernel
theorem dX11_image_8 : decode cX11_image 8 = .ok (.aload_n 0, 1) := by decide +kernel
theorem dX11_image_9 : decode cX11_image 9 = .ok (.getfield 38, 3) := by decide +kernel
theorem dX11_image_12 : decode cX11_image 12 = .ok (.invokevirtual 312, 3) := by decide +kernel
theorem dX11_image_15 : decode cX11_image 15 = .ok (.aload_n 0, 1) := by decide +kernel
theorem dX11_image_16 : decode cX11_image 16 = .ok (.getfield 65, 3) := by decide +kernel
theorem dX11_image_19 : decode cX11_image 19 = .ok (.getfield 315, 3) := by decide +kernel
theorem dX11_image_22 : decode cX11_image 22 = .ok (.ireturn, 1) := by decide +kernel
theorem dX11_octet_0 : decode cX11_octet 0 = .ok (.iload_n 1, 1) := by decide +kernel
theorem dX11_octet_1 : decode cX11_octet 1 = .ok (.ifCond .lt 26, 3) := by decide +kernel
theorem dX11_octet_4 : decode cX11_octet 4 = .ok (.iload_n 1, 1) := by decide +kernel
theorem dX11_octet_5 : decode cX11_octet 5 = .ok (.aload_n 0, 1) := by decide +kernel
theorem dX11_octet_6 : decode cX11_octet 6 = .ok (.getfield 65, 3) := by decide +kernel
theorem dX11_octet_9 : decode cX11_octet 9 = .ok (.getfield 315, 3) := by decide +kernel
theorem dX11_octet_12 : decode cX11_octet 12 = .ok (.if_icmp .ge 15, 3) := by decide +kernel
theorem dX11_octet_15 : decode cX11_octet 15 = .ok (.aload_n 0, 1) := by decide +kernel
theorem dX11_octet_16 : decode cX11_octet 16 = .ok (.getfield 65, 3) := by decide +kernel
theorem dX11_octet_19 : decode cX11_octet 19 = .ok (.getfield 316, 3) := by decide +kernel
theorem dX11_octet_22 : decode cX11_octet 22 = .ok (.iload_n 1, 1) := by decide +kernel
theorem dX11_octet_23 : decode cX11_octet 23 = .ok (.iaload, 1) := by decide +kernel
theorem dX11_octet_24 : decode cX11_octet 24 = .ok (.goto 4, 3) := by decide +kernel
theorem dX11_octet_27 : decode cX11_octet 27 = .ok (.iconst (-1), 1) := by decide +kernel
theorem dX11_octet_28 : decode cX11_octet 28 = .ok (.ireturn, 1) := by decide +kernel
theorem dX11_on_0 : decode cX11_on 0 = .ok (.aload_n 0, 1) := by decide +kernel
theorem dX11_on_1 : decode cX11_on 1 = .ok (.getfield 10, 3) := by decide +kernel
theorem dX11_on_4 : decode cX11_on 4 = .ok (.aload_n 0, 1) := by decide +kernel
theorem dX11_on_5 : decode cX11_on 5 = .ok (.getfield 28, 3) := by decide +kernel
theorem dX11_on_8 : decode cX11_on 8 = .ok (.aload_n 0, 1) := by decide +kernel
theorem dX11_on_9 : decode cX11_on 9 = .ok (.getfield 42, 3) := by decide +kernel
theorem dX11_on_12 : decode cX11_on 12 = .ok (.invokestatic 319, 3) := by decide +kernel
theorem dX11_on_15 : decode cX11_on 15 = .ok (.istore_n 1, 1) := by decide +kernel
theorem dX11_on_16 : decode cX11_on 16 = .ok (.aload_n 0, 1) := by decide +kernel
theorem dX11_on_17 : decode cX11_on 17 = .ok (.getfield 10, 3) := by decide +kernel
theorem dX11_on_20 : decode cX11_on 20 = .ok (.iconst 0, 1) := by decide +kernel
theorem dX11_on_21 : decode cX11_on 21 = .ok (.putfield 84, 3) := by decide +kernel
theorem dX11_on_24 : decode cX11_on 24 = .ok (.iload_n 1, 1) := by decide +kernel
theorem dX11_on_25 : decode cX11_on 25 = .ok (.ifCond .ne 9, 3) := by decide +kernel
theorem dX11_on_28 : decode cX11_on 28 = .ok (.aload_n 0, 1) := by decide +kernel
theorem dX11_on_29 : decode cX11_on 29 = .ok (.iconst 5, 1) := by decide +kernel
theorem dX11_on_30 : decode cX11_on 30 = .ok (.invokevirtual 95, 3) := by decide +kernel
theorem dX11_on_33 : decode cX11_on 33 = .ok (.ireturn, 1) := by decide +kernel
theorem dX11_on_34 : decode cX11_on 34 = .ok (.aload_n 0, 1) := by decide +kernel
theorem dX11_on_35 : decode cX11_on 35 = .ok (.getfield 38, 3) := by decide +kernel
theorem dX11_on_38 : decode cX11_on 38 = .ok (.aload_n 0, 1) := by decide +kernel
theorem dX11_on_39 : decode cX11_on 39 = .ok (.getfield 42, 3) := by decide +kernel
theorem dX11_on_42 : decode cX11_on 42 = .ok (.invokevirtual 224, 3) := by decide +kernel
theorem dX11_on_45 : decode cX11_on 45 = .ok (.aload_n 0, 1) := by decide +kernel
theorem dX11_on_46 : decode cX11_on 46 = .ok (.getfield 58, 3) := by decide +kernel
theorem dX11_on_49 : decode cX11_on 49 = .ok (.invokevirtual 107, 3) := by decide +kernel
theorem dX11_on_52 : decode cX11_on 52 = .ok (.aload_n 0, 1) := by decide +kernel
theorem dX11_on_53 : decode cX11_on 53 = .ok (.iconst 0, 1) := by decide +kernel
theorem dX11_on_54 : decode cX11_on 54 = .ok (.putfield 113, 3) := by decide +kernel
theorem dX11_on_57 : decode cX11_on 57 = .ok (.iconst 1, 1) := by decide +kernel
theorem dX11_on_58 : decode cX11_on 58 = .ok (.ireturn, 1) := by decide +kernel
theorem dX11_status_0 : decode cX11_status 0 = .ok (.iload_n 1, 1) := by decide +kernel
theorem dX11_status_1 : decode cX11_status 1 = .ok (.ifCond .lt 21, 3) := by decide +kernel
theorem dX11_status_4 : decode cX11_status 4 = .ok (.iload_n 1, 1) := by decide +kernel
theorem dX11_status_5 : decode cX11_status 5 = .ok (.aload_n 0, 1) := by decide +kernel
theorem dX11_status_6 : decode cX11_status 6 = .ok (.getfield 76, 3) := by decide +kernel
theorem dX11_status_9 : decode cX11_status 9 = .ok (.arraylength, 1) := by decide +kernel
theorem dX11_status_10 : decode cX11_status 10 = .ok (.if_icmp .ge 12, 3) := by decide +kernel
theorem dX11_status_13 : decode cX11_status 13 = .ok (.aload_n 0, 1) := by decide +kernel
theorem dX11_status_14 : decode cX11_status 14 = .ok (.getfield 76, 3) := by decide +kernel
theorem dX11_status_17 : decode cX11_status 17 = .ok (.iload_n 1, 1) := by decide +kernel
theorem dX11_status_18 : decode cX11_status 18 = .ok (.iaload, 1) := by decide +kernel
theorem dX11_status_19 : decode cX11_status 19 = .ok (.goto 4, 3) := by decide +kernel
theorem dX11_status_22 : decode cX11_status 22 = .ok (.iconst (-1), 1) := by decide +kernel
theorem dX11_status_23 : decode cX11_status 23 = .ok (.ireturn, 1) := by decide +kernel
theorem dX12_is_0 : decode cX12_is 0 = .ok (.iload_n 0, 1) := by decide +kernel
theorem dX12_is_1 : decode cX12_is 1 = .ok (.iload_n 1, 1) := by decide +kernel
theorem dX12_is_2 : decode cX12_is 2 = .ok (.if_icmp .lt 12, 3) := by decide +kernel
theorem dX12_is_5 : decode cX12_is 5 = .ok (.iload_n 0, 1) := by decide +kernel
theorem dX12_is_6 : decode cX12_is 6 = .ok (.iload_n 2, 1) := by decide +kernel
theorem dX12_is_7 : decode cX12_is 7 = .ok (.if_icmp .gt 7, 3) := by decide +kernel
theorem dX12_is_10 : decode cX12_is 10 = .ok (.iconst 1, 1) := by decide +kernel
theorem dX12_is_11 : decode cX12_is 11 = .ok (.goto 4, 3) := by decide +kernel
theorem dX12_is_14 : decode cX12_is 14 = .ok (.iconst 0, 1) := by decide +kernel
theorem dX12_is_15 : decode cX12_is 15 = .ok (.ireturn, 1) := by decide +kernel
theorem dX12_put_0 : decode cX12_put 0 = .ok (.bipush 24, 2) := by decide +kernel
theorem dX12_put_2 : decode cX12_put 2 = .ok (.istore_n 2, 1) := by decide +kernel
theorem dX12_put_3 : decode cX12_put 3 = .ok (.iload_n 2, 1) := by decide +kernel
theorem dX12_put_4 : decode cX12_put 4 = .ok (.ifCond .lt 35, 3) := by decide +kernel
theorem dX12_put_7 : decode cX12_put 7 = .ok (.aload_n 0, 1) := by decide +kernel
theorem dX12_put_8 : decode cX12_put 8 = .ok (.getfield 7, 3) := by decide +kernel
theorem dX12_put_11 : decode cX12_put 11 = .ok (.aload_n 0, 1) := by decide +kernel
theorem dX12_put_12 : decode cX12_put 12 = .ok (.getfield 13, 3) := by decide +kernel
theorem dX12_put_15 : decode cX12_put 15 = .ok (.iload_n 1, 1) := by decide +kernel
theorem dX12_put_16 : decode cX12_put 16 = .ok (.iload_n 2, 1) := by decide +kernel
theorem dX12_put_17 : decode cX12_put 17 = .ok (.ishr, 1) := by decide +kernel
theorem dX12_put_18 : decode cX12_put 18 = .ok (.sipush 255, 3) := by decide +kernel
theorem dX12_put_21 : decode cX12_put 21 = .ok (.iand, 1) := by decide +kernel
theorem dX12_put_22 : decode cX12_put 22 = .ok (.iastore, 1) := by decide +kernel
theorem dX12_put_23 : decode cX12_put 23 = .ok (.aload_n 0, 1) := by decide +kernel
theorem dX12_put_24 : decode cX12_put 24 = .ok (.dup, 1) := by decide +kernel
theorem dX12_put_25 : decode cX12_put 25 = .ok (.getfield 13, 3) := by decide +kernel
theorem dX12_put_28 : decode cX12_put 28 = .ok (.iconst 1, 1) := by decide +kernel
theorem dX12_put_29 : decode cX12_put 29 = .ok (.iadd, 1) := by decide +kernel
theorem dX12_put_30 : decode cX12_put 30 = .ok (.putfield 13, 3) := by decide +kernel
theorem dX12_put_33 : decode cX12_put 33 = .ok (.iinc 2 (-8), 3) := by decide +kernel
theorem dX12_put_36 : decode cX12_put 36 = .ok (.goto (-33), 3) := by decide +kernel
theorem dX12_put_39 : decode cX12_put 39 = .ok (.return_, 1) := by decide +kernel
theorem dX12_refuses_0 : decode cX12_refuses 0 = .ok (.aload_n 0, 1) := by decide +kernel
theorem dX12_refuses_1 : decode cX12_refuses 1 = .ok (.getfield 153, 3) := by decide +kernel
theorem dX12_refuses_4 : decode cX12_refuses 4 = .ok (.iload_n 1, 1) := by decide +kernel
theorem dX12_refuses_5 : decode cX12_refuses 5 = .ok (.dup2, 1) := by decide +kernel
theorem dX12_refuses_6 : decode cX12_refuses 6 = .ok (.iaload, 1) := by decide +kernel
theorem dX12_refuses_7 : decode cX12_refuses 7 = .ok (.iconst 1, 1) := by decide +kernel
theorem dX12_refuses_8 : decode cX12_refuses 8 = .ok (.iadd, 1) := by decide +kernel
theorem dX12_refuses_9 : decode cX12_refuses 9 = .ok (.iastore, 1) := by decide +kernel
theorem dX12_refuses_10 : decode cX12_refuses 10 = .ok (.iconst (-1), 1) := by decide +kernel
theorem dX12_refuses_11 : decode cX12_refuses 11 = .ok (.ireturn, 1) := by decide +kernel
theorem dX12_feed_0 : decode cX12_feed 0 = .ok (.aload_n 0, 1) := by decide +kernel
theorem dX12_feed_1 : decode cX12_feed 1 = .ok (.getfield 13, 3) := by decide +kernel
theorem dX12_feed_4 : decode cX12_feed 4 = .ok (.bipush 20, 2) := by decide +kernel
theorem dX12_feed_6 : decode cX12_feed 6 = .ok (.iadd, 1) := by decide +kernel
theorem dX12_feed_7 : decode cX12_feed 7 = .ok (.sipush 1600, 3) := by decide +kernel
theorem dX12_feed_10 : decode cX12_feed 10 = .ok (.if_icmp .le 9, 3) := by decide +kernel
theorem dX12_feed_13 : decode cX12_feed 13 = .ok (.aload_n 0, 1) := by decide +kernel
theorem dX12_feed_14 : decode cX12_feed 14 = .ok (.iconst 0, 1) := by decide +kernel
theorem dX12_feed_15 : decode cX12_feed 15 = .ok (.invokevirtual 216, 3) := by decide +kernel
theorem dX12_feed_18 : decode cX12_feed 18 = .ok (.ireturn, 1) := by decide +kernel
theorem dX12_feed_19 : decode cX12_feed 19 = .ok (.aload_n 0, 1) := by decide +kernel
theorem dX12_feed_20 : decode cX12_feed 20 = .ok (.iload_n 1, 1) := by decide +kernel
theorem dX12_feed_21 : decode cX12_feed 21 = .ok (.invokevirtual 220, 3) := by decide +kernel
theorem dX12_feed_24 : decode cX12_feed 24 = .ok (.aload_n 0, 1) := by decide +kernel
theorem dX12_feed_25 : decode cX12_feed 25 = .ok (.iload_n 2, 1) := by decide +kernel
theorem dX12_feed_26 : decode cX12_feed 26 = .ok (.invokevirtual 220, 3) := by decide +kernel
theorem dX12_feed_29 : decode cX12_feed 29 = .ok (.aload_n 0, 1) := by decide +kernel
theorem dX12_feed_30 : decode cX12_feed 30 = .ok (.iload_n 3, 1) := by decide +kernel
theorem dX12_feed_31 : decode cX12_feed 31 = .ok (.invokevirtual 220, 3) := by decide +kernel
theorem dX12_feed_34 : decode cX12_feed 34 = .ok (.aload_n 0, 1) := by decide +kernel
theorem dX12_feed_35 : decode cX12_feed 35 = .ok (.iload 4, 2) := by decide +kernel
theorem dX12_feed_37 : decode cX12_feed 37 = .ok (.invokevirtual 220, 3) := by decide +kernel
theorem dX12_feed_40 : decode cX12_feed 40 = .ok (.aload_n 0, 1) := by decide +kernel
theorem dX12_feed_41 : decode cX12_feed 41 = .ok (.iload 5, 2) := by decide +kernel
theorem dX12_feed_43 : decode cX12_feed 43 = .ok (.invokevirtual 220, 3) := by decide +kernel
theorem dX12_feed_46 : decode cX12_feed 46 = .ok (.aload_n 0, 1) := by decide +kernel
theorem dX12_feed_47 : decode cX12_feed 47 = .ok (.getfield 13, 3) := by decide +kernel
theorem dX12_feed_50 : decode cX12_feed 50 = .ok (.ireturn, 1) := by decide +kernel
theorem dX12_end_0 : decode cX12_end 0 = .ok (.iload_n 1, 1) := by decide +kernel
theorem dX12_end_1 : decode cX12_end 1 = .ok (.ifCond .lt 11, 3) := by decide +kernel
theorem dX12_end_4 : decode cX12_end 4 = .ok (.iload_n 1, 1) := by decide +kernel
theorem dX12_end_5 : decode cX12_end 5 = .ok (.aload_n 0, 1) := by decide +kernel
theorem dX12_end_6 : decode cX12_end 6 = .ok (.getfield 13, 3) := by decide +kernel
theorem dX12_end_9 : decode cX12_end 9 = .ok (.if_icmp .le 17, 3) := by decide +kernel
theorem dX12_end_12 : decode cX12_end 12 = .ok (.aload_n 0, 1) := by decide +kernel
theorem dX12_end_13 : decode cX12_end 13 = .ok (.iconst 0, 1) := by decide +kernel
theorem dX12_end_14 : decode cX12_end 14 = .ok (.invokevirtual 216, 3) := by decide +kernel
theorem dX12_end_17 : decode cX12_end 17 = .ok (.ifCond .lt 7, 3) := by decide +kernel
theorem dX12_end_20 : decode cX12_end 20 = .ok (.iconst 1, 1) := by decide +kernel
theorem dX12_end_21 : decode cX12_end 21 = .ok (.goto 4, 3) := by decide +kernel
theorem dX12_end_24 : decode cX12_end 24 = .ok (.iconst 0, 1) := by decide +kernel
theorem dX12_end_25 : decode cX12_end 25 = .ok (.ireturn, 1) := by decide +kernel
theorem dX12_end_26 : decode cX12_end 26 = .ok (.aload_n 0, 1) := by decide +kernel
theorem dX12_end_27 : decode cX12_end 27 = .ok (.iload_n 1, 1) := by decide +kernel
theorem dX12_end_28 : decode cX12_end 28 = .ok (.putfield 13, 3) := by decide +kernel
theorem dX12_end_31 : decode cX12_end 31 = .ok (.iconst 1, 1) := by decide +kernel
theorem dX12_end_32 : decode cX12_end 32 = .ok (.ireturn, 1) := by decide +kernel
theorem dX12_blame_0 : decode cX12_blame 0 = .ok (.aload_n 0, 1) := by decide +kernel
theorem dX12_blame_1 : decode cX12_blame 1 = .ok (.getfield 36, 3) := by decide +kernel
theorem dX12_blame_4 : decode cX12_blame 4 = .ok (.ifCond .le 4, 3) := by decide +kernel
theorem dX12_blame_7 : decode cX12_blame 7 = .ok (.return_, 1) := by decide +kernel
theorem dX12_blame_8 : decode cX12_blame 8 = .ok (.aload_n 0, 1) := by decide +kernel
theorem dX12_blame_9 : decode cX12_blame 9 = .ok (.iload_n 1, 1) := by decide +kernel
theorem dX12_blame_10 : decode cX12_blame 10 = .ok (.putfield 36, 3) := by decide +kernel
theorem dX12_blame_13 : decode cX12_blame 13 = .ok (.aload_n 0, 1) := by decide +kernel
theorem dX12_blame_14 : decode cX12_blame 14 = .ok (.iload_n 2, 1) := by decide +kernel
theorem dX12_blame_15 : decode cX12_blame 15 = .ok (.putfield 39, 3) := by decide +kernel
theorem dX12_blame_18 : decode cX12_blame 18 = .ok (.return_, 1) := by decide +kernel
theorem dX12_isLetter_0 : decode cX12_isLetter 0 = .ok (.iload_n 0, 1) := by decide +kernel
theorem dX12_isLetter_1 : decode cX12_isLetter 1 = .ok (.bipush 97, 2) := by decide +kernel
theorem dX12_isLetter_3 : decode cX12_isLetter 3 = .ok (.if_icmp .lt 13, 3) := by decide +kernel
theorem dX12_isLetter_6 : decode cX12_isLetter 6 = .ok (.iload_n 0, 1) := by decide +kernel
theorem dX12_isLetter_7 : decode cX12_isLetter 7 = .ok (.bipush 122, 2) := by decide +kernel
theorem dX12_isLetter_9 : decode cX12_isLetter 9 = .ok (.if_icmp .gt 7, 3) := by decide +kernel
theorem dX12_isLetter_12 : decode cX12_isLetter 12 = .ok (.iconst 1, 1) := by decide +kernel
theorem dX12_isLetter_13 : decode cX12_isLetter 13 = .ok (.goto 4, 3) := by decide +kernel
theorem dX12_isLetter_16 : decode cX12_isLetter 16 = .ok (.iconst 0, 1) := by decide +kernel
theorem dX12_isLetter_17 : decode cX12_isLetter 17 = .ok (.ireturn, 1) := by decide +kernel
theorem dX12_isDigit_0 : decode cX12_isDigit 0 = .ok (.iload_n 0, 1) := by decide +kernel
theorem dX12_isDigit_1 : decode cX12_isDigit 1 = .ok (.bipush 48, 2) := by decide +kernel
theorem dX12_isDigit_3 : decode cX12_isDigit 3 = .ok (.if_icmp .lt 13, 3) := by decide +kernel
theorem dX12_isDigit_6 : decode cX12_isDigit 6 = .ok (.iload_n 0, 1) := by decide +kernel
theorem dX12_isDigit_7 : decode cX12_isDigit 7 = .ok (.bipush 57, 2) := by decide +kernel
theorem dX12_isDigit_9 : decode cX12_isDigit 9 = .ok (.if_icmp .gt 7, 3) := by decide +kernel
theorem dX12_isDigit_12 : decode cX12_isDigit 12 = .ok (.iconst 1, 1) := by decide +kernel
theorem dX12_isDigit_13 : decode cX12_isDigit 13 = .ok (.goto 4, 3) := by decide +kernel
theorem dX12_isDigit_16 : decode cX12_isDigit 16 = .ok (.iconst 0, 1) := by decide +kernel
theorem dX12_isDigit_17 : decode cX12_isDigit 17 = .ok (.ireturn, 1) := by decide +kernel
theorem dX12_lex_0 : decode cX12_lex 0 = .ok (.aload_n 0, 1) := by decide +kernel
theorem dX12_lex_1 : decode cX12_lex 1 = .ok (.getfield 48, 3) := by decide +kernel
theorem dX12_lex_4 : decode cX12_lex 4 = .ok (.iconst (-1), 1) := by decide +kernel
theorem dX12_lex_5 : decode cX12_lex 5 = .ok (.if_icmp .eq 12, 3) := by decide +kernel
theorem dX12_lex_8 : decode cX12_lex 8 = .ok (.aload_n 0, 1) := by decide +kernel
theorem dX12_lex_9 : decode cX12_lex 9 = .ok (.iconst 1, 1) := by decide +kernel
theorem dX12_lex_10 : decode cX12_lex 10 = .ok (.aload_n 0, 1) := by decide +kernel
theorem dX12_lex_11 : decode cX12_lex 11 = .ok (.getfield 48, 3) := by decide +kernel
theorem dX12_lex_14 : decode cX12_lex 14 = .ok (.invokevirtual 224, 3) := by decide +kernel
theorem dX12_lex_17 : decode cX12_lex 17 = .ok (.return_, 1) := by decide +kernel
theorem dX12_ahead_0 : decode cX12_ahead 0 = .ok (.aload_n 0, 1) := by decide +kernel
theorem dX12_ahead_1 : decode cX12_ahead 1 = .ok (.getfield 26, 3) := by decide +kernel
theorem dX12_ahead_4 : decode cX12_ahead 4 = .ok (.istore_n 1, 1) := by decide +kernel
theorem dX12_ahead_5 : decode cX12_ahead 5 = .ok (.iload_n 1, 1) := by decide +kernel
theorem dX12_ahead_6 : decode cX12_ahead 6 = .ok (.aload_n 0, 1) := by decide +kernel
theorem dX12_ahead_7 : decode cX12_ahead 7 = .ok (.getfield 17, 3) := by decide +kernel
theorem dX12_ahead_10 : decode cX12_ahead 10 = .ok (.if_icmp .ge 31, 3) := by decide +kernel
theorem dX12_ahead_13 : decode cX12_ahead 13 = .ok (.aload_n 0, 1) := by decide +kernel
theorem dX12_ahead_14 : decode cX12_ahead 14 = .ok (.getfield 7, 3) := by decide +kernel
theorem dX12_ahead_17 : decode cX12_ahead 17 = .ok (.iload_n 1, 1) := by decide +kernel
theorem dX12_ahead_18 : decode cX12_ahead 18 = .ok (.iaload, 1) := by decide +kernel
theorem dX12_ahead_19 : decode cX12_ahead 19 = .ok (.bipush 32, 2) := by decide +kernel
theorem dX12_ahead_21 : decode cX12_ahead 21 = .ok (.if_icmp .eq 14, 3) := by decide +kernel
theorem dX12_ahead_24 : decode cX12_ahead 24 = .ok (.aload_n 0, 1) := by decide +kernel
theorem dX12_ahead_25 : decode cX12_ahead 25 = .ok (.getfield 7, 3) := by decide +kernel
theorem dX12_ahead_28 : decode cX12_ahead 28 = .ok (.iload_n 1, 1) := by decide +kernel
theorem dX12_ahead_29 : decode cX12_ahead 29 = .ok (.iaload, 1) := by decide +kernel
theorem dX12_ahead_30 : decode cX12_ahead 30 = .ok (.bipush 10, 2) := by decide +kernel
theorem dX12_ahead_32 : decode cX12_ahead 32 = .ok (.if_icmp .ne 9, 3) := by decide +kernel
theorem dX12_ahead_35 : decode cX12_ahead 35 = .ok (.iinc 1 1, 3) := by decide +kernel
theorem dX12_ahead_38 : decode cX12_ahead 38 = .ok (.goto (-33), 3) := by decide +kernel
theorem dX12_ahead_41 : decode cX12_ahead 41 = .ok (.aload_n 0, 1) := by decide +kernel
theorem dX12_ahead_42 : decode cX12_ahead 42 = .ok (.iload_n 1, 1) := by decide +kernel
theorem dX12_ahead_43 : decode cX12_ahead 43 = .ok (.putfield 23, 3) := by decide +kernel
theorem dX12_ahead_46 : decode cX12_ahead 46 = .ok (.aload_n 0, 1) := by decide +kernel
theorem dX12_ahead_47 : decode cX12_ahead 47 = .ok (.iload_n 1, 1) := by decide +kernel
theorem dX12_ahead_48 : decode cX12_ahead 48 = .ok (.putfield 26, 3) := by decide +kernel
theorem dX12_ahead_51 : decode cX12_ahead 51 = .ok (.aload_n 0, 1) := by decide +kernel
theorem dX12_ahead_52 : decode cX12_ahead 52 = .ok (.iconst 0, 1) := by decide +kernel
theorem dX12_ahead_53 : decode cX12_ahead 53 = .ok (.putfield 20, 3) := by decide +kernel
theorem dX12_ahead_56 : decode cX12_ahead 56 = .ok (.aload_n 0, 1) := by decide +kernel
theorem dX12_ahead_57 : decode cX12_ahead 57 = .ok (.iconst (-1), 1) := by decide +kernel
theorem dX12_ahead_58 : decode cX12_ahead 58 = .ok (.putfield 48, 3) := by decide +kernel
theorem dX12_ahead_61 : decode cX12_ahead 61 = .ok (.iload_n 1, 1) := by decide +kernel
theorem dX12_ahead_62 : decode cX12_ahead 62 = .ok (.aload_n 0, 1) := by decide +kernel
theorem dX12_ahead_63 : decode cX12_ahead 63 = .ok (.getfield 17, 3) := by decide +kernel
theorem dX12_ahead_66 : decode cX12_ahead 66 = .ok (.if_icmp .lt 4, 3) := by decide +kernel
theorem dX12_ahead_69 : decode cX12_ahead 69 = .ok (.return_, 1) := by decide +kernel
theorem dX12_ahead_70 : decode cX12_ahead 70 = .ok (.aload_n 0, 1) := by decide +kernel
theorem dX12_ahead_71 : decode cX12_ahead 71 = .ok (.getfield 7, 3) := by decide +kernel
theorem dX12_ahead_74 : decode cX12_ahead 74 = .ok (.iload_n 1, 1) := by decide +kernel
theorem dX12_ahead_75 : decode cX12_ahead 75 = .ok (.iaload, 1) := by decide +kernel
theorem dX12_ahead_76 : decode cX12_ahead 76 = .ok (.invokestatic 228, 3) := by decide +kernel
theorem dX12_ahead_79 : decode cX12_ahead 79 = .ok (.istore_n 2, 1) := by decide +kernel
theorem dX12_ahead_80 : decode cX12_ahead 80 = .ok (.aload_n 0, 1) := by decide +kernel
theorem dX12_ahead_81 : decode cX12_ahead 81 = .ok (.getfield 7, 3) := by decide +kernel
theorem dX12_ahead_84 : decode cX12_ahead 84 = .ok (.iload_n 1, 1) := by decide +kernel
theorem dX12_ahead_85 : decode cX12_ahead 85 = .ok (.iaload, 1) := by decide +kernel
theorem dX12_ahead_86 : decode cX12_ahead 86 = .ok (.invokestatic 232, 3) := by decide +kernel
theorem dX12_ahead_89 : decode cX12_ahead 89 = .ok (.istore_n 3, 1) := by decide +kernel
theorem dX12_ahead_90 : decode cX12_ahead 90 = .ok (.iload_n 2, 1) := by decide +kernel
theorem dX12_ahead_91 : decode cX12_ahead 91 = .ok (.ifCond .ne 7, 3) := by decide +kernel
theorem dX12_ahead_94 : decode cX12_ahead 94 = .ok (.iload_n 3, 1) := by decide +kernel
theorem dX12_ahead_95 : decode cX12_ahead 95 = .ok (.ifCond .eq 40, 3) := by decide +kernel
theorem dX12_ahead_98 : decode cX12_ahead 98 = .ok (.iload_n 1, 1) := by decide +kernel
theorem dX12_ahead_99 : decode cX12_ahead 99 = .ok (.ifCond .le 36, 3) := by decide +kernel
theorem dX12_ahead_102 : decode cX12_ahead 102 = .ok (.aload_n 0, 1) := by decide +kernel
theorem dX12_ahead_103 : decode cX12_ahead 103 = .ok (.getfield 7, 3) := by decide +kernel
theorem dX12_ahead_106 : decode cX12_ahead 106 = .ok (.iload_n 1, 1) := by decide +kernel
theorem dX12_ahead_107 : decode cX12_ahead 107 = .ok (.iconst 1, 1) := by decide +kernel
theorem dX12_ahead_108 : decode cX12_ahead 108 = .ok (.isub, 1) := by decide +kernel
theorem dX12_ahead_109 : decode cX12_ahead 109 = .ok (.iaload, 1) := by decide +kernel
theorem dX12_ahead_110 : decode cX12_ahead 110 = .ok (.invokestatic 228, 3) := by decide +kernel
theorem dX12_ahead_113 : decode cX12_ahead 113 = .ok (.ifCond .ne 17, 3) := by decide +kernel
theorem dX12_ahead_116 : decode cX12_ahead 116 = .ok (.aload_n 0, 1) := by decide +kernel
theorem dX12_ahead_117 : decode cX12_ahead 117 = .ok (.getfield 7, 3) := by decide +kernel
theorem dX12_ahead_120 : decode cX12_ahead 120 = .ok (.iload_n 1, 1) := by decide +kernel
theorem dX12_ahead_121 : decode cX12_ahead 121 = .ok (.iconst 1, 1) := by decide +kernel
theorem dX12_ahead_122 : decode cX12_ahead 122 = .ok (.isub, 1) := by decide +kernel
theorem dX12_ahead_123 : decode cX12_ahead 123 = .ok (.iaload, 1) := by decide +kernel
theorem dX12_ahead_124 : decode cX12_ahead 124 = .ok (.invokestatic 232, 3) := by decide +kernel
theorem dX12_ahead_127 : decode cX12_ahead 127 = .ok (.ifCond .eq 8, 3) := by decide +kernel
theorem dX12_ahead_130 : decode cX12_ahead 130 = .ok (.aload_n 0, 1) := by decide +kernel
theorem dX12_ahead_131 : decode cX12_ahead 131 = .ok (.iload_n 1, 1) := by decide +kernel
theorem dX12_ahead_132 : decode cX12_ahead 132 = .ok (.putfield 48, 3) := by decide +kernel
theorem dX12_ahead_135 : decode cX12_ahead 135 = .ok (.aload_n 0, 1) := by decide +kernel
theorem dX12_ahead_136 : decode cX12_ahead 136 = .ok (.iconst 0, 1) := by decide +kernel
theorem dX12_ahead_137 : decode cX12_ahead 137 = .ok (.putfield 29, 3) := by decide +kernel
theorem dX12_ahead_140 : decode cX12_ahead 140 = .ok (.aload_n 0, 1) := by decide +kernel
theorem dX12_ahead_141 : decode cX12_ahead 141 = .ok (.lconst 0, 1) := by decide +kernel
theorem dX12_ahead_142 : decode cX12_ahead 142 = .ok (.putfield 32, 3) := by decide +kernel
theorem dX12_ahead_145 : decode cX12_ahead 145 = .ok (.aload_n 0, 1) := by decide +kernel
theorem dX12_ahead_146 : decode cX12_ahead 146 = .ok (.iconst 3, 1) := by decide +kernel
theorem dX12_ahead_147 : decode cX12_ahead 147 = .ok (.putfield 20, 3) := by decide +kernel
theorem dX12_ahead_150 : decode cX12_ahead 150 = .ok (.aload_n 0, 1) := by decide +kernel
theorem dX12_ahead_151 : decode cX12_ahead 151 = .ok (.iload_n 1, 1) := by decide +kernel
theorem dX12_ahead_152 : decode cX12_ahead 152 = .ok (.iconst 1, 1) := by decide +kernel
theorem dX12_ahead_153 : decode cX12_ahead 153 = .ok (.iadd, 1) := by decide +kernel
theorem dX12_ahead_154 : decode cX12_ahead 154 = .ok (.putfield 26, 3) := by decide +kernel
theorem dX12_ahead_157 : decode cX12_ahead 157 = .ok (.iload_n 2, 1) := by decide +kernel
theorem dX12_ahead_158 : decode cX12_ahead 158 = .ok (.ifCond .ne 18, 3) := by decide +kernel
theorem dX12_ahead_161 : decode cX12_ahead 161 = .ok (.iload_n 3, 1) := by decide +kernel
theorem dX12_ahead_162 : decode cX12_ahead 162 = .ok (.ifCond .ne 14, 3) := by decide +kernel
theorem dX12_ahead_165 : decode cX12_ahead 165 = .ok (.aload_n 0, 1) := by decide +kernel
theorem dX12_ahead_166 : decode cX12_ahead 166 = .ok (.aload_n 0, 1) := by decide +kernel
theorem dX12_ahead_167 : decode cX12_ahead 167 = .ok (.getfield 7, 3) := by decide +kernel
theorem dX12_ahead_170 : decode cX12_ahead 170 = .ok (.iload_n 1, 1) := by decide +kernel
theorem dX12_ahead_171 : decode cX12_ahead 171 = .ok (.iaload, 1) := by decide +kernel
theorem dX12_ahead_172 : decode cX12_ahead 172 = .ok (.putfield 29, 3) := by decide +kernel
theorem dX12_ahead_175 : decode cX12_ahead 175 = .ok (.return_, 1) := by decide +kernel
theorem dX12_ahead_176 : decode cX12_ahead 176 = .ok (.aload_n 0, 1) := by decide +kernel
theorem dX12_ahead_177 : decode cX12_ahead 177 = .ok (.iload_n 2, 1) := by decide +kernel
theorem dX12_ahead_178 : decode cX12_ahead 178 = .ok (.ifCond .eq 7, 3) := by decide +kernel
theorem dX12_ahead_181 : decode cX12_ahead 181 = .ok (.iconst 1, 1) := by decide +kernel
theorem dX12_ahead_182 : decode cX12_ahead 182 = .ok (.goto 4, 3) := by decide +kernel
theorem dX12_ahead_185 : decode cX12_ahead 185 = .ok (.iconst 2, 1) := by decide +kernel
theorem dX12_ahead_186 : decode cX12_ahead 186 = .ok (.putfield 20, 3) := by decide +kernel
theorem dX12_ahead_189 : decode cX12_ahead 189 = .ok (.iload_n 2, 1) := by decide +kernel
theorem dX12_ahead_190 : decode cX12_ahead 190 = .ok (.ifCond .eq 8, 3) := by decide +kernel
theorem dX12_ahead_193 : decode cX12_ahead 193 = .ok (.bipush 6, 2) := by decide +kernel
theorem dX12_ahead_195 : decode cX12_ahead 195 = .ok (.goto 4, 3) := by decide +kernel
theorem dX12_ahead_198 : decode cX12_ahead 198 = .ok (.iconst 4, 1) := by decide +kernel
theorem dX12_ahead_199 : decode cX12_ahead 199 = .ok (.istore 4, 2) := by decide +kernel
theorem dX12_ahead_201 : decode cX12_ahead 201 = .ok (.iconst 0, 1) := by decide +kernel
theorem dX12_ahead_202 : decode cX12_ahead 202 = .ok (.istore 5, 2) := by decide +kernel
theorem dX12_ahead_204 : decode cX12_ahead 204 = .ok (.iload_n 1, 1) := by decide +kernel
theorem dX12_ahead_205 : decode cX12_ahead 205 = .ok (.aload_n 0, 1) := by decide +kernel
theorem dX12_ahead_206 : decode cX12_ahead 206 = .ok (.getfield 17, 3) := by decide +kernel
theorem dX12_ahead_209 : decode cX12_ahead 209 = .ok (.if_icmp .ge 125, 3) := by decide +kernel
theorem dX12_ahead_212 : decode cX12_ahead 212 = .ok (.iload_n 2, 1) := by decide +kernel
theorem dX12_ahead_213 : decode cX12_ahead 213 = .ok (.ifCond .eq 18, 3) := by decide +kernel
theorem dX12_ahead_216 : decode cX12_ahead 216 = .ok (.aload_n 0, 1) := by decide +kernel
theorem dX12_ahead_217 : decode cX12_ahead 217 = .ok (.getfield 7, 3) := by decide +kernel
theorem dX12_ahead_220 : decode cX12_ahead 220 = .ok (.iload_n 1, 1) := by decide +kernel
theorem dX12_ahead_221 : decode cX12_ahead 221 = .ok (.iaload, 1) := by decide +kernel
theorem dX12_ahead_222 : decode cX12_ahead 222 = .ok (.invokestatic 228, 3) := by decide +kernel
theorem dX12_ahead_225 : decode cX12_ahead 225 = .ok (.ifCond .eq 109, 3) := by decide +kernel
theorem dX12_ahead_228 : decode cX12_ahead 228 = .ok (.goto 15, 3) := by decide +kernel
theorem dX12_ahead_231 : decode cX12_ahead 231 = .ok (.aload_n 0, 1) := by decide +kernel
theorem dX12_ahead_232 : decode cX12_ahead 232 = .ok (.getfield 7, 3) := by decide +kernel
theorem dX12_ahead_235 : decode cX12_ahead 235 = .ok (.iload_n 1, 1) := by decide +kernel
theorem dX12_ahead_236 : decode cX12_ahead 236 = .ok (.iaload, 1) := by decide +kernel
theorem dX12_ahead_237 : decode cX12_ahead 237 = .ok (.invokestatic 232, 3) := by decide +kernel
theorem dX12_ahead_240 : decode cX12_ahead 240 = .ok (.ifCond .eq 94, 3) := by decide +kernel
theorem dX12_ahead_243 : decode cX12_ahead 243 = .ok (.iload 5, 2) := by decide +kernel
theorem dX12_ahead_245 : decode cX12_ahead 245 = .ok (.iload 4, 2) := by decide +kernel
theorem dX12_ahead_247 : decode cX12_ahead 247 = .ok (.if_icmp .ne 16, 3) := by decide +kernel
theorem dX12_ahead_250 : decode cX12_ahead 250 = .ok (.aload_n 0, 1) := by decide +kernel
theorem dX12_ahead_251 : decode cX12_ahead 251 = .ok (.getfield 48, 3) := by decide +kernel
theorem dX12_ahead_254 : decode cX12_ahead 254 = .ok (.iconst (-1), 1) := by decide +kernel
theorem dX12_ahead_255 : decode cX12_ahead 255 = .ok (.if_icmp .ne 8, 3) := by decide +kernel
theorem dX12_ahead_258 : decode cX12_ahead 258 = .ok (.aload_n 0, 1) := by decide +kernel
theorem dX12_ahead_259 : decode cX12_ahead 259 = .ok (.iload_n 1, 1) := by decide +kernel
theorem dX12_ahead_260 : decode cX12_ahead 260 = .ok (.putfield 48, 3) := by decide +kernel
theorem dX12_ahead_263 : decode cX12_ahead 263 = .ok (.iload 5, 2) := by decide +kernel
theorem dX12_ahead_265 : decode cX12_ahead 265 = .ok (.iload 4, 2) := by decide +kernel
theorem dX12_ahead_267 : decode cX12_ahead 267 = .ok (.if_icmp .ge 26, 3) := by decide +kernel
theorem dX12_ahead_270 : decode cX12_ahead 270 = .ok (.iload_n 2, 1) := by decide +kernel
theorem dX12_ahead_271 : decode cX12_ahead 271 = .ok (.ifCond .eq 22, 3) := by decide +kernel
theorem dX12_ahead_274 : decode cX12_ahead 274 = .ok (.aload_n 0, 1) := by decide +kernel
theorem dX12_ahead_275 : decode cX12_ahead 275 = .ok (.aload_n 0, 1) := by decide +kernel
theorem dX12_ahead_276 : decode cX12_ahead 276 = .ok (.getfield 32, 3) := by decide +kernel
theorem dX12_ahead_279 : decode cX12_ahead 279 = .ok (.bipush 8, 2) := by decide +kernel
theorem dX12_ahead_281 : decode cX12_ahead 281 = .ok (.lshl, 1) := by decide +kernel
theorem dX12_ahead_282 : decode cX12_ahead 282 = .ok (.aload_n 0, 1) := by decide +kernel
theorem dX12_ahead_283 : decode cX12_ahead 283 = .ok (.getfield 7, 3) := by decide +kernel
theorem dX12_ahead_286 : decode cX12_ahead 286 = .ok (.iload_n 1, 1) := by decide +kernel
theorem dX12_ahead_287 : decode cX12_ahead 287 = .ok (.iaload, 1) := by decide +kernel
theorem dX12_ahead_288 : decode cX12_ahead 288 = .ok (.i2l, 1) := by decide +kernel
theorem dX12_ahead_289 : decode cX12_ahead 289 = .ok (.lor, 1) := by decide +kernel
theorem dX12_ahead_290 : decode cX12_ahead 290 = .ok (.putfield 32, 3) := by decide +kernel
theorem dX12_ahead_293 : decode cX12_ahead 293 = .ok (.iload 5, 2) := by decide +kernel
theorem dX12_ahead_295 : decode cX12_ahead 295 = .ok (.iload 4, 2) := by decide +kernel
theorem dX12_ahead_297 : decode cX12_ahead 297 = .ok (.if_icmp .ge 28, 3) := by decide +kernel
theorem dX12_ahead_300 : decode cX12_ahead 300 = .ok (.iload_n 3, 1) := by decide +kernel
theorem dX12_ahead_301 : decode cX12_ahead 301 = .ok (.ifCond .eq 24, 3) := by decide +kernel
theorem dX12_ahead_304 : decode cX12_ahead 304 = .ok (.aload_n 0, 1) := by decide +kernel
theorem dX12_ahead_305 : decode cX12_ahead 305 = .ok (.bipush 10, 2) := by decide +kernel
theorem dX12_ahead_307 : decode cX12_ahead 307 = .ok (.aload_n 0, 1) := by decide +kernel
theorem dX12_ahead_308 : decode cX12_ahead 308 = .ok (.getfield 29, 3) := by decide +kernel
theorem dX12_ahead_311 : decode cX12_ahead 311 = .ok (.imul, 1) := by decide +kernel
theorem dX12_ahead_312 : decode cX12_ahead 312 = .ok (.aload_n 0, 1) := by decide +kernel
theorem dX12_ahead_313 : decode cX12_ahead 313 = .ok (.getfield 7, 3) := by decide +kernel
theorem dX12_ahead_316 : decode cX12_ahead 316 = .ok (.iload_n 1, 1) := by decide +kernel
theorem dX12_ahead_317 : decode cX12_ahead 317 = .ok (.iaload, 1) := by decide +kernel
theorem dX12_ahead_318 : decode cX12_ahead 318 = .ok (.iadd, 1) := by decide +kernel
theorem dX12_ahead_319 : decode cX12_ahead 319 = .ok (.bipush 48, 2) := by decide +kernel
theorem dX12_ahead_321 : decode cX12_ahead 321 = .ok (.isub, 1) := by decide +kernel
theorem dX12_ahead_322 : decode cX12_ahead 322 = .ok (.putfield 29, 3) := by decide +kernel
theorem dX12_ahead_325 : decode cX12_ahead 325 = .ok (.iinc 5 1, 3) := by decide +kernel
theorem dX12_ahead_328 : decode cX12_ahead 328 = .ok (.iinc 1 1, 3) := by decide +kernel
theorem dX12_ahead_331 : decode cX12_ahead 331 = .ok (.goto (-127), 3) := by decide +kernel
theorem dX12_ahead_334 : decode cX12_ahead 334 = .ok (.aload_n 0, 1) := by decide +kernel
theorem dX12_ahead_335 : decode cX12_ahead 335 = .ok (.iload_n 1, 1) := by decide +kernel
theorem dX12_ahead_336 : decode cX12_ahead 336 = .ok (.putfield 26, 3) := by decide +kernel
theorem dX12_ahead_339 : decode cX12_ahead 339 = .ok (.return_, 1) := by decide +kernel
theorem dX12_isSign_0 : decode cX12_isSign 0 = .ok (.aload_n 0, 1) := by decide +kernel
theorem dX12_isSign_1 : decode cX12_isSign 1 = .ok (.getfield 20, 3) := by decide +kernel
theorem dX12_isSign_4 : decode cX12_isSign 4 = .ok (.iconst 3, 1) := by decide +kernel
theorem dX12_isSign_5 : decode cX12_isSign 5 = .ok (.if_icmp .ne 15, 3) := by decide +kernel
theorem dX12_isSign_8 : decode cX12_isSign 8 = .ok (.aload_n 0, 1) := by decide +kernel
theorem dX12_isSign_9 : decode cX12_isSign 9 = .ok (.getfield 29, 3) := by decide +kernel
theorem dX12_isSign_12 : decode cX12_isSign 12 = .ok (.iload_n 1, 1) := by decide +kernel
theorem dX12_isSign_13 : decode cX12_isSign 13 = .ok (.if_icmp .ne 7, 3) := by decide +kernel
theorem dX12_isSign_16 : decode cX12_isSign 16 = .ok (.iconst 1, 1) := by decide +kernel
theorem dX12_isSign_17 : decode cX12_isSign 17 = .ok (.goto 4, 3) := by decide +kernel
theorem dX12_isSign_20 : decode cX12_isSign 20 = .ok (.iconst 0, 1) := by decide +kernel
theorem dX12_isSign_21 : decode cX12_isSign 21 = .ok (.ireturn, 1) := by decide +kernel
theorem dX12_isWord_0 : decode cX12_isWord 0 = .ok (.aload_n 0, 1) := by decide +kernel
theorem dX12_isWord_1 : decode cX12_isWord 1 = .ok (.getfield 20, 3) := by decide +kernel
theorem dX12_isWord_4 : decode cX12_isWord 4 = .ok (.iconst 1, 1) := by decide +kernel
theorem dX12_isWord_5 : decode cX12_isWord 5 = .ok (.if_icmp .ne 16, 3) := by decide +kernel
theorem dX12_isWord_8 : decode cX12_isWord 8 = .ok (.aload_n 0, 1) := by decide +kernel
theorem dX12_isWord_9 : decode cX12_isWord 9 = .ok (.getfield 32, 3) := by decide +kernel
theorem dX12_isWord_12 : decode cX12_isWord 12 = .ok (.lload_n 1, 1) := by decide +kernel
theorem dX12_isWord_13 : decode cX12_isWord 13 = .ok (.lcmp, 1) := by decide +kernel
theorem dX12_isWord_14 : decode cX12_isWord 14 = .ok (.ifCond .ne 7, 3) := by decide +kernel
theorem dX12_isWord_17 : decode cX12_isWord 17 = .ok (.iconst 1, 1) := by decide +kernel
theorem dX12_isWord_18 : decode cX12_isWord 18 = .ok (.goto 4, 3) := by decide +kernel
theorem dX12_isWord_21 : decode cX12_isWord 21 = .ok (.iconst 0, 1) := by decide +kernel
theorem dX12_isWord_22 : decode cX12_isWord 22 = .ok (.ireturn, 1) := by decide +kernel
theorem dX12_must_0 : decode cX12_must 0 = .ok (.aload_n 0, 1) := by decide +kernel
theorem dX12_must_1 : decode cX12_must 1 = .ok (.invokevirtual 235, 3) := by decide +kernel
theorem dX12_must_4 : decode cX12_must 4 = .ok (.aload_n 0, 1) := by decide +kernel
theorem dX12_must_5 : decode cX12_must 5 = .ok (.iload_n 1, 1) := by decide +kernel
theorem dX12_must_6 : decode cX12_must 6 = .ok (.invokevirtual 238, 3) := by decide +kernel
theorem dX12_must_9 : decode cX12_must 9 = .ok (.ifCond .ne 12, 3) := by decide +kernel
theorem dX12_must_12 : decode cX12_must 12 = .ok (.aload_n 0, 1) := by decide +kernel
theorem dX12_must_13 : decode cX12_must 13 = .ok (.iconst 1, 1) := by decide +kernel
theorem dX12_must_14 : decode cX12_must 14 = .ok (.aload_n 0, 1) := by decide +kernel
theorem dX12_must_15 : decode cX12_must 15 = .ok (.getfield 23, 3) := by decide +kernel
theorem dX12_must_18 : decode cX12_must 18 = .ok (.invokevirtual 224, 3) := by decide +kernel
theorem dX12_must_21 : decode cX12_must 21 = .ok (.aload_n 0, 1) := by decide +kernel
theorem dX12_must_22 : decode cX12_must 22 = .ok (.getfield 36, 3) := by decide +kernel
theorem dX12_must_25 : decode cX12_must 25 = .ok (.ifCond .ne 7, 3) := by decide +kernel
theorem dX12_must_28 : decode cX12_must 28 = .ok (.aload_n 0, 1) := by decide +kernel
theorem dX12_must_29 : decode cX12_must 29 = .ok (.invokevirtual 241, 3) := by decide +kernel
theorem dX12_must_32 : decode cX12_must 32 = .ok (.return_, 1) := by decide +kernel
theorem dX12_isOwn_0 : decode cX12_isOwn 0 = .ok (.lload_n 1, 1) := by decide +kernel
theorem dX12_isOwn_1 : decode cX12_isOwn 1 = .ok (.ldc2_w 244, 3) := by decide +kernel
theorem dX12_isOwn_4 : decode cX12_isOwn 4 = .ok (.lcmp, 1) := by decide +kernel
theorem dX12_isOwn_5 : decode cX12_isOwn 5 = .ok (.ifCond .eq 35, 3) := by decide +kernel
theorem dX12_isOwn_8 : decode cX12_isOwn 8 = .ok (.lload_n 1, 1) := by decide +kernel
theorem dX12_isOwn_9 : decode cX12_isOwn 9 = .ok (.ldc2_w 246, 3) := by decide +kernel
theorem dX12_isOwn_12 : decode cX12_isOwn 12 = .ok (.lcmp, 1) := by decide +kernel
theorem dX12_isOwn_13 : decode cX12_isOwn 13 = .ok (.ifCond .eq 27, 3) := by decide +kernel
theorem dX12_isOwn_16 : decode cX12_isOwn 16 = .ok (.lload_n 1, 1) := by decide +kernel
theorem dX12_isOwn_17 : decode cX12_isOwn 17 = .ok (.ldc2_w 248, 3) := by decide +kernel
theorem dX12_isOwn_20 : decode cX12_isOwn 20 = .ok (.lcmp, 1) := by decide +kernel
theorem dX12_isOwn_21 : decode cX12_isOwn 21 = .ok (.ifCond .eq 19, 3) := by decide +kernel
theorem dX12_isOwn_24 : decode cX12_isOwn 24 = .ok (.lload_n 1, 1) := by decide +kernel
theorem dX12_isOwn_25 : decode cX12_isOwn 25 = .ok (.ldc2_w 250, 3) := by decide +kernel
theorem dX12_isOwn_28 : decode cX12_isOwn 28 = .ok (.lcmp, 1) := by decide +kernel
theorem dX12_isOwn_29 : decode cX12_isOwn 29 = .ok (.ifCond .eq 11, 3) := by decide +kernel
theorem dX12_isOwn_32 : decode cX12_isOwn 32 = .ok (.lload_n 1, 1) := by decide +kernel
theorem dX12_isOwn_33 : decode cX12_isOwn 33 = .ok (.ldc2_w 252, 3) := by decide +kernel
theorem dX12_isOwn_36 : decode cX12_isOwn 36 = .ok (.lcmp, 1) := by decide +kernel
theorem dX12_isOwn_37 : decode cX12_isOwn 37 = .ok (.ifCond .ne 5, 3) := by decide +kernel
theorem dX12_isOwn_40 : decode cX12_isOwn 40 = .ok (.iconst 1, 1) := by decide +kernel
theorem dX12_isOwn_41 : decode cX12_isOwn 41 = .ok (.ireturn, 1) := by decide +kernel
theorem dX12_isOwn_42 : decode cX12_isOwn 42 = .ok (.lload_n 1, 1) := by decide +kernel
theorem dX12_isOwn_43 : decode cX12_isOwn 43 = .ok (.ldc2_w 254, 3) := by decide +kernel
theorem dX12_isOwn_46 : decode cX12_isOwn 46 = .ok (.lcmp, 1) := by decide +kernel
theorem dX12_isOwn_47 : decode cX12_isOwn 47 = .ok (.ifCond .eq 35, 3) := by decide +kernel
theorem dX12_isOwn_50 : decode cX12_isOwn 50 = .ok (.lload_n 1, 1) := by decide +kernel
theorem dX12_isOwn_51 : decode cX12_isOwn 51 = .ok (.ldc2_w 256, 3) := by decide +kernel
theorem dX12_isOwn_54 : decode cX12_isOwn 54 = .ok (.lcmp, 1) := by decide +kernel
theorem dX12_isOwn_55 : decode cX12_isOwn 55 = .ok (.ifCond .eq 27, 3) := by decide +kernel
theorem dX12_isOwn_58 : decode cX12_isOwn 58 = .ok (.lload_n 1, 1) := by decide +kernel
theorem dX12_isOwn_59 : decode cX12_isOwn 59 = .ok (.ldc2_w 258, 3) := by decide +kernel
theorem dX12_isOwn_62 : decode cX12_isOwn 62 = .ok (.lcmp, 1) := by decide +kernel
theorem dX12_isOwn_63 : decode cX12_isOwn 63 = .ok (.ifCond .eq 19, 3) := by decide +kernel
theorem dX12_isOwn_66 : decode cX12_isOwn 66 = .ok (.lload_n 1, 1) := by decide +kernel
theorem dX12_isOwn_67 : decode cX12_isOwn 67 = .ok (.ldc2_w 260, 3) := by decide +kernel
theorem dX12_isOwn_70 : decode cX12_isOwn 70 = .ok (.lcmp, 1) := by decide +kernel
theorem dX12_isOwn_71 : decode cX12_isOwn 71 = .ok (.ifCond .eq 11, 3) := by decide +kernel
theorem dX12_isOwn_74 : decode cX12_isOwn 74 = .ok (.lload_n 1, 1) := by decide +kernel
theorem dX12_isOwn_75 : decode cX12_isOwn 75 = .ok (.ldc2_w 262, 3) := by decide +kernel
theorem dX12_isOwn_78 : decode cX12_isOwn 78 = .ok (.lcmp, 1) := by decide +kernel
theorem dX12_isOwn_79 : decode cX12_isOwn 79 = .ok (.ifCond .ne 5, 3) := by decide +kernel
theorem dX12_isOwn_82 : decode cX12_isOwn 82 = .ok (.iconst 1, 1) := by decide +kernel
theorem dX12_isOwn_83 : decode cX12_isOwn 83 = .ok (.ireturn, 1) := by decide +kernel
theorem dX12_isOwn_84 : decode cX12_isOwn 84 = .ok (.lload_n 1, 1) := by decide +kernel
theorem dX12_isOwn_85 : decode cX12_isOwn 85 = .ok (.ldc2_w 264, 3) := by decide +kernel
theorem dX12_isOwn_88 : decode cX12_isOwn 88 = .ok (.lcmp, 1) := by decide +kernel
theorem dX12_isOwn_89 : decode cX12_isOwn 89 = .ok (.ifCond .eq 35, 3) := by decide +kernel
theorem dX12_isOwn_92 : decode cX12_isOwn 92 = .ok (.lload_n 1, 1) := by decide +kernel
theorem dX12_isOwn_93 : decode cX12_isOwn 93 = .ok (.ldc2_w 266, 3) := by decide +kernel
theorem dX12_isOwn_96 : decode cX12_isOwn 96 = .ok (.lcmp, 1) := by decide +kernel
theorem dX12_isOwn_97 : decode cX12_isOwn 97 = .ok (.ifCond .eq 27, 3) := by decide +kernel
theorem dX12_isOwn_100 : decode cX12_isOwn 100 = .ok (.lload_n 1, 1) := by decide +kernel
theorem dX12_isOwn_101 : decode cX12_isOwn 101 = .ok (.ldc2_w 268, 3) := by decide +kernel
theorem dX12_isOwn_104 : decode cX12_isOwn 104 = .ok (.lcmp, 1) := by decide +kernel
theorem dX12_isOwn_105 : decode cX12_isOwn 105 = .ok (.ifCond .eq 19, 3) := by decide +kernel
theorem dX12_isOwn_108 : decode cX12_isOwn 108 = .ok (.lload_n 1, 1) := by decide +kernel
theorem dX12_isOwn_109 : decode cX12_isOwn 109 = .ok (.ldc2_w 270, 3) := by decide +kernel
theorem dX12_isOwn_112 : decode cX12_isOwn 112 = .ok (.lcmp, 1) := by decide +kernel
theorem dX12_isOwn_113 : decode cX12_isOwn 113 = .ok (.ifCond .eq 11, 3) := by decide +kernel
theorem dX12_isOwn_116 : decode cX12_isOwn 116 = .ok (.lload_n 1, 1) := by decide +kernel
theorem dX12_isOwn_117 : decode cX12_isOwn 117 = .ok (.ldc2_w 272, 3) := by decide +kernel
theorem dX12_isOwn_120 : decode cX12_isOwn 120 = .ok (.lcmp, 1) := by decide +kernel
theorem dX12_isOwn_121 : decode cX12_isOwn 121 = .ok (.ifCond .ne 5, 3) := by decide +kernel
theorem dX12_isOwn_124 : decode cX12_isOwn 124 = .ok (.iconst 1, 1) := by decide +kernel
theorem dX12_isOwn_125 : decode cX12_isOwn 125 = .ok (.ireturn, 1) := by decide +kernel
theorem dX12_isOwn_126 : decode cX12_isOwn 126 = .ok (.lload_n 1, 1) := by decide +kernel
theorem dX12_isOwn_127 : decode cX12_isOwn 127 = .ok (.ldc2_w 274, 3) := by decide +kernel
theorem dX12_isOwn_130 : decode cX12_isOwn 130 = .ok (.lcmp, 1) := by decide +kernel
theorem dX12_isOwn_131 : decode cX12_isOwn 131 = .ok (.ifCond .eq 35, 3) := by decide +kernel
theorem dX12_isOwn_134 : decode cX12_isOwn 134 = .ok (.lload_n 1, 1) := by decide +kernel
theorem dX12_isOwn_135 : decode cX12_isOwn 135 = .ok (.ldc2_w 276, 3) := by decide +kernel
theorem dX12_isOwn_138 : decode cX12_isOwn 138 = .ok (.lcmp, 1) := by decide +kernel
theorem dX12_isOwn_139 : decode cX12_isOwn 139 = .ok (.ifCond .eq 27, 3) := by decide +kernel
theorem dX12_isOwn_142 : decode cX12_isOwn 142 = .ok (.lload_n 1, 1) := by decide +kernel
theorem dX12_isOwn_143 : decode cX12_isOwn 143 = .ok (.ldc2_w 278, 3) := by decide +kernel
theorem dX12_isOwn_146 : decode cX12_isOwn 146 = .ok (.lcmp, 1) := by decide +kernel
theorem dX12_isOwn_147 : decode cX12_isOwn 147 = .ok (.ifCond .eq 19, 3) := by decide +kernel
theorem dX12_isOwn_150 : decode cX12_isOwn 150 = .ok (.lload_n 1, 1) := by decide +kernel
theorem dX12_isOwn_151 : decode cX12_isOwn 151 = .ok (.ldc2_w 280, 3) := by decide +kernel
theorem dX12_isOwn_154 : decode cX12_isOwn 154 = .ok (.lcmp, 1) := by decide +kernel
theorem dX12_isOwn_155 : decode cX12_isOwn 155 = .ok (.ifCond .eq 11, 3) := by decide +kernel
theorem dX12_isOwn_158 : decode cX12_isOwn 158 = .ok (.lload_n 1, 1) := by decide +kernel
theorem dX12_isOwn_159 : decode cX12_isOwn 159 = .ok (.ldc2_w 282, 3) := by decide +kernel
theorem dX12_isOwn_162 : decode cX12_isOwn 162 = .ok (.lcmp, 1) := by decide +kernel
theorem dX12_isOwn_163 : decode cX12_isOwn 163 = .ok (.ifCond .ne 5, 3) := by decide +kernel
theorem dX12_isOwn_166 : decode cX12_isOwn 166 = .ok (.iconst 1, 1) := by decide +kernel
theorem dX12_isOwn_167 : decode cX12_isOwn 167 = .ok (.ireturn, 1) := by decide +kernel
theorem dX12_isOwn_168 : decode cX12_isOwn 168 = .ok (.lload_n 1, 1) := by decide +kernel
theorem dX12_isOwn_169 : decode cX12_isOwn 169 = .ok (.ldc2_w 284, 3) := by decide +kernel
theorem dX12_isOwn_172 : decode cX12_isOwn 172 = .ok (.lcmp, 1) := by decide +kernel
theorem dX12_isOwn_173 : decode cX12_isOwn 173 = .ok (.ifCond .eq 27, 3) := by decide +kernel
theorem dX12_isOwn_176 : decode cX12_isOwn 176 = .ok (.lload_n 1, 1) := by decide +kernel
theorem dX12_isOwn_177 : decode cX12_isOwn 177 = .ok (.ldc2_w 286, 3) := by decide +kernel
theorem dX12_isOwn_180 : decode cX12_isOwn 180 = .ok (.lcmp, 1) := by decide +kernel
theorem dX12_isOwn_181 : decode cX12_isOwn 181 = .ok (.ifCond .eq 19, 3) := by decide +kernel
theorem dX12_isOwn_184 : decode cX12_isOwn 184 = .ok (.lload_n 1, 1) := by decide +kernel
theorem dX12_isOwn_185 : decode cX12_isOwn 185 = .ok (.ldc2_w 288, 3) := by decide +kernel
theorem dX12_isOwn_188 : decode cX12_isOwn 188 = .ok (.lcmp, 1) := by decide +kernel
theorem dX12_isOwn_189 : decode cX12_isOwn 189 = .ok (.ifCond .eq 11, 3) := by decide +kernel
theorem dX12_isOwn_192 : decode cX12_isOwn 192 = .ok (.lload_n 1, 1) := by decide +kernel
theorem dX12_isOwn_193 : decode cX12_isOwn 193 = .ok (.ldc2_w 290, 3) := by decide +kernel
theorem dX12_isOwn_196 : decode cX12_isOwn 196 = .ok (.lcmp, 1) := by decide +kernel
theorem dX12_isOwn_197 : decode cX12_isOwn 197 = .ok (.ifCond .ne 5, 3) := by decide +kernel
theorem dX12_isOwn_200 : decode cX12_isOwn 200 = .ok (.iconst 1, 1) := by decide +kernel
theorem dX12_isOwn_201 : decode cX12_isOwn 201 = .ok (.ireturn, 1) := by decide +kernel
theorem dX12_isOwn_202 : decode cX12_isOwn 202 = .ok (.iconst 0, 1) := by decide +kernel
theorem dX12_isOwn_203 : decode cX12_isOwn 203 = .ok (.ireturn, 1) := by decide +kernel
set_option maxRecDepth 20000 in
theorem w_X11_chance_J52 {Y : YT} {X : CX} (C : Cx Y X cX11_chance 4 RX11 8) {Q : Int → Mem → Prop} (hR : Rt Y X (some .int) (PQi Y Q)) {v1 : Int} {v3 : Int} {s0 : Int} {s1 : Int} {k34 : Int → Int → Mem → Prop} (hk34 : ∀ (v2 : Int) (v3 : Int)  (M : Mem), k34 v2 v3 M → G Y X 4 34 [(0, vR Y 0), (1, vI v1), (2, vI v2), (3, vI v3)] ([]) M) {M : Mem}  (h : m_X11_chance_J52 k34 Q v1 v3 s0 s1 M) : G Y X 4 52 [(0, vR Y 0), (1, vI v1), (3, vI v3)] ((vI s1) :: (vI s0) :: []) M := by
  unfold m_X11_chance_J52 at h
  refine g_iadd C dX11_chance_52 ?_
  refine g_istore_n (lv' := [(2, vI (s0 + s1)), (0, vR Y 0), (1, vI v1), (3, vI v3)]) C dX11_chance_53 rfl (by decide) rfl ?_
  refine g_aload_n (q := 1) C dX11_chance_54 rfl rfl ?_
  refine g_aload_n (q := 1) C dX11_chance_55 rfl rfl ?_
  refine g_cVr (As := []) C clX11_152 clvX11_thisDay dX11_chance_56 kd_0 rfl (Nat.le_of_ble_eq_true rfl) rfl (by decide) (t_X11_thisDay (Cx.ok C) h) (fun r2 M1 h => ?_)
  obtain ⟨hk_r2, h⟩ := h
  refine g_cVv (As := [vR Y r2]) C clX11_286 clvX11_pass dX11_chance_59 kd_0 rfl (Nat.le_of_ble_eq_true rfl) rfl (by decide) (t_X11_pass (Cx.ok C) h) (fun M3 h => ?_)
  refine g_iinc (q := 3) (v := v3 + 1) (lv' := [(3, vI (v3 + 1)), (2, vI (s0 + s1)), (0, vR Y 0), (1, vI v1)]) C dX11_chance_62 rfl rfl (by decide) rfl ?_
  refine g_goto (tgt := 34) C dX11_chance_65 (by decide) ?_
  refine G.sub [2, 3, 1, 0] rfl ?_
  exact hk34 _ _ _ h
set_option maxRecDepth 20000 in
theorem w_X11_chance_L34 {Y : YT} {X : CX} (C : Cx Y X cX11_chance 4 RX11 8) {Q : Int → Mem → Prop} (hR : Rt Y X (some .int) (PQi Y Q)) {v1 : Int}  : ∀ (f : Nat) (v2 : Int) (v3 : Int) (M : Mem), m_X11_chance_L34  Q v1 f v2 v3 M → G Y X 4 34 [(0, vR Y 0), (1, vI v1), (2, vI v2), (3, vI v3)] ([]) M := by
  intro f
  induction f with
  | zero =>
    intro v2 v3 M h
    exact (show False from h).elim
  | succ f ih =>
    intro v2 v3 M h
    unfold m_X11_chance_L34 at h
    refine g_iload_n (q := 3) C dX11_chance_34 rfl rfl ?_
    refine g_iload_n (q := 1) C dX11_chance_35 rfl rfl ?_
    obtain ⟨g4, h⟩ := h
    obtain ⟨g5, h⟩ := h
    obtain ⟨ht, hf⟩ := h
    refine g_icmp_ge (tgt := 68) C dX11_chance_36 (by decide) g4 g5 (fun c => ?_) (fun c => ?_)
    · have h := ht c
      refine g_iload_n (q := 2) C dX11_chance_68 rfl rfl ?_
      exact g_reti C hR dX11_chance_69 h
    · have h := hf c
      refine g_iload_n (q := 2) C dX11_chance_39 rfl rfl ?_
      refine g_aload_n (q := 0) C dX11_chance_40 rfl rfl ?_
      refine g_cVi (As := []) C clX11_289 clvX11_rainCuts dX11_chance_41 kd_0 rfl (Nat.le_of_ble_eq_true rfl) rfl (by decide) (t_X11_rainCuts (Cx.ok C) h) (fun r7 M6 h => ?_)
      obtain ⟨g8, h⟩ := h
      obtain ⟨ht, hf⟩ := h
      refine g_if_eq (tgt := 51) C dX11_chance_44 (by decide) g8 (fun c => ?_) (fun c => ?_)
      · have h := ht c
        refine g_iconst C dX11_chance_51 rfl ?_
        refine G.sub [0, 1, 3] rfl ?_
        exact w_X11_chance_J52 C hR (ih)  h
      · have h := hf c
        refine g_iconst C dX11_chance_47 rfl ?_
        refine g_goto (tgt := 52) C dX11_chance_48 (by decide) ?_
        refine G.sub [0, 1, 3] rfl ?_
        exact w_X11_chance_J52 C hR (ih)  h
set_option maxRecDepth 20000 in
theorem w_X11_chance_J13 {Y : YT} {X : CX} (C : Cx Y X cX11_chance 4 RX11 8) {Q : Int → Mem → Prop} (hR : Rt Y X (some .int) (PQi Y Q))   {M : Mem}  (h : m_X11_chance_J13  Q  M) : G Y X 4 13 [(0, vR Y 0)] ([]) M := by
  unfold m_X11_chance_J13 at h
  refine g_aload_n (q := 0) C dX11_chance_13 rfl rfl ?_
  refine g_iconst C dX11_chance_14 rfl ?_
  refine g_cVi (As := [vI 2]) C clX11_87 clvX11_refuse dX11_chance_15 kd_0 rfl (Nat.le_of_ble_eq_true rfl) rfl (by decide) (t_X11_refuse (Cx.ok C) h) (fun r10 M9 h => ?_)
  exact g_reti C hR dX11_chance_18 h
set_option maxRecDepth 20000 in
theorem t_X11_chance {l : Launch} {Y : YT} (hY : YOK Y) {a0 : Int} {M : Mem} {Q : Int → Mem → Prop} (h : m_X11_chance a0 M Q) : Ctr l Y yX11_chance cX11_chance 4 (some .int) 8 [vR Y 0, vI a0] M (PQi Y Q) := by
  unfold m_X11_chance at h
  refine ctr_ofF hY (by decide +kernel) (Nat.le_of_ble_eq_true rfl) [(0, vR Y 0), (1, vI a0)] rfl (fun X hX C hR => ?_)
  refine g_iload_n (q := 1) C dX11_chance_0 rfl rfl ?_
  refine g_iconst C dX11_chance_1 rfl ?_
  obtain ⟨g11, h⟩ := h
  obtain ⟨ht, hf⟩ := h
  refine g_icmp_lt (tgt := 13) C dX11_chance_2 (by decide) g11 (by decide) (fun c => ?_) (fun c => ?_)
  · have h := ht c
    refine G.sub [0] rfl ?_
    exact w_X11_chance_J13 C hR  h
  · have h := hf c
    refine g_iload_n (q := 1) C dX11_chance_5 rfl rfl ?_
    refine g_aload_n (q := 0) C dX11_chance_6 rfl rfl ?_
    refine g_cVi (As := []) C clX11_249 clvX11_daysAhead dX11_chance_7 kd_0 rfl (Nat.le_of_ble_eq_true rfl) rfl (by decide) (t_X11_daysAhead (Cx.ok C) h) (fun r13 M12 h => ?_)
    obtain ⟨g14, h⟩ := h
    obtain ⟨g15, h⟩ := h
    obtain ⟨ht, hf⟩ := h
    refine g_icmp_le (tgt := 19) C dX11_chance_10 (by decide) g14 g15 (fun c => ?_) (fun c => ?_)
    · have h := ht c
      refine g_aload_n (q := 0) C dX11_chance_19 rfl rfl ?_
      refine g_getS (v := 62) C fX11_58 dX11_chance_20 kd_0 rfl ?_
      refine g_aload_n (q := 0) C dX11_chance_23 rfl rfl ?_
      refine g_getS (v := 40) C fX11_38 dX11_chance_24 kd_0 rfl ?_
      refine g_cVv (As := [vR Y 40]) C clX11_283 clvX3_remember dX11_chance_27 kd_62 rfl (Nat.le_of_ble_eq_true rfl) rfl (by decide) (t_X3_remember (Cx.ok C) h) (fun M16 h => ?_)
      refine g_iconst C dX11_chance_30 rfl ?_
      refine g_istore_n (lv' := [(2, vI 0), (0, vR Y 0), (1, vI a0)]) C dX11_chance_31 rfl (by decide) rfl ?_
      refine g_iconst C dX11_chance_32 rfl ?_
      refine g_istore_n (lv' := [(3, vI 0), (2, vI 0), (0, vR Y 0), (1, vI a0)]) C dX11_chance_33 rfl (by decide) rfl ?_
      obtain ⟨f0, h⟩ := h
      refine G.sub [2, 3, 1, 0] rfl ?_
      exact w_X11_chance_L34 C hR  f0 _ _ _ h
    · have h := hf c
      refine G.sub [0] rfl ?_
      exact w_X11_chance_J13 C hR  h
set_option maxRecDepth 20000 in
theorem t_X11_act {l : Launch} {Y : YT} (hY : YOK Y) {M : Mem} {Q : Mem → Prop} (h : m_X11_act  M Q) : Ctr l Y yX11_act cX11_act 1 none 5 [vR Y 0] M (PQv Y Q) := by
  unfold m_X11_act at h
  refine ctr_ofF hY (by decide +kernel) (Nat.le_of_ble_eq_true rfl) [(0, vR Y 0)] rfl (fun X hX C hR => ?_)
  refine g_aload_n (q := 0) C dX11_act_0 rfl rfl ?_
  refine g_getS (v := 62) C fX11_58 dX11_act_1 kd_0 rfl ?_
  refine g_aload_n (q := 0) C dX11_act_4 rfl rfl ?_
  refine g_getS (v := 40) C fX11_38 dX11_act_5 kd_0 rfl ?_
  refine g_cVv (As := [vR Y 40]) C clX11_283 clvX3_remember dX11_act_8 kd_62 rfl (Nat.le_of_ble_eq_true rfl) rfl (by decide) (t_X3_remember (Cx.ok C) h) (fun M1 h => ?_)
  refine g_aload_n (q := 0) C dX11_act_11 rfl rfl ?_
  refine g_iconst C dX11_act_12 rfl ?_
  obtain ⟨M2, e_M2⟩ : ∃ z : Mem, z = up M1 0 8 0 := ⟨_, rfl⟩
  have h := h M2 e_M2
  refine g_putZ C fX11_113 pX11_113 dX11_act_13 kd_0 (by decide) e_M2 ?_
  exact g_retv C hR dX11_act_16 h
set_option maxRecDepth 20000 in
theorem w_X11_show_J55 {Y : YT} {X : CX} (C : Cx Y X cX11_show 5 RX11 6) {Q : Int → Mem → Prop} (hR : Rt Y X (some .boolean) (PQi Y Q))   {M : Mem}  (h : m_X11_show_J55  Q  M) : G Y X 5 55 [(0, vR Y 0)] ([]) M := by
  unfold m_X11_show_J55 at h
  refine g_aload_n (q := 0) C dX11_show_55 rfl rfl ?_
  refine g_iconst C dX11_show_56 rfl ?_
  refine g_cVi (As := [vI 3]) C clX11_95 clvX11_deny dX11_show_57 kd_0 rfl (Nat.le_of_ble_eq_true rfl) rfl (by decide) (t_X11_deny (Cx.ok C) h) (fun r2 M1 h => ?_)
  obtain ⟨g3, h⟩ := h
  exact g_retz C hR dX11_show_60 g3 h
set_option maxRecDepth 20000 in
theorem t_X11_show {l : Launch} {Y : YT} (hY : YOK Y) {a0 : Int} {a1 : Int} {a2 : Int} {M : Mem} {Q : Int → Mem → Prop} (h : m_X11_show a0 a1 a2 M Q) : Ctr l Y yX11_show cX11_show 5 (some .boolean) 6 [vR Y 0, vI a0, vI a1, vI a2] M (PQi Y Q) := by
  unfold m_X11_show at h
  refine ctr_ofF hY (by decide +kernel) (Nat.le_of_ble_eq_true rfl) [(0, vR Y 0), (1, vI a0), (2, vI a1), (3, vI a2)] rfl (fun X hX C hR => ?_)
  refine g_aload_n (q := 0) C dX11_show_0 rfl rfl ?_
  refine g_getS (v := 40) C fX11_38 dX11_show_1 kd_0 rfl ?_
  refine g_getS (v := 42) C fX11_135 dX11_show_4 kd_40 rfl ?_
  refine g_astore (lv' := [(4, vR Y 42), (0, vR Y 0), (1, vI a0), (2, vI a1), (3, vI a2)]) C dX11_show_7 (by decide) rfl ?_
  refine g_iload_n (q := 2) C dX11_show_9 rfl rfl ?_
  refine g_cSi (As := [vI a0]) C clX11_221 clsX11_isStep dX11_show_10 rfl (Nat.le_of_ble_eq_true rfl) rfl (by decide) (t_X11_isStep (Cx.ok C) h) (fun r5 M4 h => ?_)
  obtain ⟨g6, h⟩ := h
  obtain ⟨ht, hf⟩ := h
  refine g_if_eq (tgt := 55) C dX11_show_13 (by decide) g6 (fun c => ?_) (fun c => ?_)
  · have h := ht c
    refine G.sub [1] rfl ?_
    exact w_X11_show_J55 C hR  h
  · have h := hf c
    refine g_aload_n (q := 1) C dX11_show_16 rfl rfl ?_
    refine g_iload_n (q := 3) C dX11_show_17 rfl rfl ?_
    refine g_cVi (As := [vI a1]) C clX11_167 clvX11_isPlace dX11_show_18 kd_0 rfl (Nat.le_of_ble_eq_true rfl) rfl (by decide) (t_X11_isPlace (Cx.ok C) h) (fun r8 M7 h => ?_)
    obtain ⟨g9, h⟩ := h
    obtain ⟨ht, hf⟩ := h
    refine g_if_eq (tgt := 55) C dX11_show_21 (by decide) g9 (fun c => ?_) (fun c => ?_)
    · have h := ht c
      refine G.sub [1] rfl ?_
      exact w_X11_show_J55 C hR  h
    · have h := hf c
      refine g_iload_n (q := 4) C dX11_show_24 rfl rfl ?_
      obtain ⟨g10, h⟩ := h
      obtain ⟨ht, hf⟩ := h
      refine g_if_lt (tgt := 55) C dX11_show_25 (by decide) g10 (fun c => ?_) (fun c => ?_)
      · have h := ht c
        refine G.sub [1] rfl ?_
        exact w_X11_show_J55 C hR  h
      · have h := hf c
        refine g_iload_n (q := 4) C dX11_show_28 rfl rfl ?_
        refine g_bipush (v := 6) C dX11_show_29 (by decide +kernel) ?_
        obtain ⟨g11, h⟩ := h
        obtain ⟨ht, hf⟩ := h
        refine g_icmp_gt (tgt := 55) C dX11_show_31 (by decide) g11 (by decide) (fun c => ?_) (fun c => ?_)
        · have h := ht c
          refine G.sub [1] rfl ?_
          exact w_X11_show_J55 C hR  h
        · have h := hf c
          refine g_aload (q := 0) C dX11_show_34 rfl ?_
          refine g_getI C fX11_139 (by decide) dX11_show_36 kd_42 ?_
          refine g_bipush (v := 8) C dX11_show_39 (by decide +kernel) ?_
          obtain ⟨g12, h⟩ := h
          obtain ⟨ht, hf⟩ := h
          refine g_icmp_ge (tgt := 55) C dX11_show_41 (by decide) g12 (by decide) (fun c => ?_) (fun c => ?_)
          · have h := ht c
            refine G.sub [1] rfl ?_
            exact w_X11_show_J55 C hR  h
          · have h := hf c
            refine g_aload (q := 0) C dX11_show_44 rfl ?_
            refine g_iload_n (q := 2) C dX11_show_46 rfl rfl ?_
            refine g_iload_n (q := 3) C dX11_show_47 rfl rfl ?_
            refine g_cVi (As := [vI a0, vI a1]) C clX11_293 clvX5_indexOf dX11_show_48 kd_42 rfl (Nat.le_of_ble_eq_true rfl) rfl (by decide) (t_X5_indexOf (Cx.ok C) h) (fun r14 M13 h => ?_)
            refine g_iconst C dX11_show_51 rfl ?_
            obtain ⟨g15, h⟩ := h
            obtain ⟨ht, hf⟩ := h
            refine g_icmp_eq (tgt := 61) C dX11_show_52 (by decide) g15 (by decide) (fun c => ?_) (fun c => ?_)
            · have h := ht c
              refine g_aload_n (q := 1) C dX11_show_61 rfl rfl ?_
              refine g_cVv (As := []) C clX11_296 clvX11_act dX11_show_62 kd_0 rfl (Nat.le_of_ble_eq_true rfl) rfl (by decide) (t_X11_act (Cx.ok C) h) (fun M16 h => ?_)
              refine g_aload (q := 0) C dX11_show_65 rfl ?_
              refine g_iload_n (q := 2) C dX11_show_67 rfl rfl ?_
              refine g_iload_n (q := 3) C dX11_show_68 rfl rfl ?_
              refine g_iload_n (q := 4) C dX11_show_69 rfl rfl ?_
              refine g_cVv (As := [vI a0, vI a1, vI a2]) C clX11_228 clvX5_put dX11_show_70 kd_42 rfl (Nat.le_of_ble_eq_true rfl) rfl (by decide) (t_X5_put (Cx.ok C) h) (fun M17 h => ?_)
              refine g_iconst C dX11_show_73 rfl ?_
              exact g_retz C hR dX11_show_74 (by decide) h
            · have h := hf c
              refine G.sub [1] rfl ?_
              exact w_X11_show_J55 C hR  h
set_option maxRecDepth 20000 in
theorem t_X11_cut {l : Launch} {Y : YT} (hY : YOK Y) {a0 : Int} {M : Mem} {Q : Int → Mem → Prop} (h : m_X11_cut a0 M Q) : Ctr l Y yX11_cut cX11_cut 2 (some .boolean) 6 [vR Y 0, vI a0] M (PQi Y Q) := by
  unfold m_X11_cut at h
  refine ctr_ofF hY (by decide +kernel) (Nat.le_of_ble_eq_true rfl) [(0, vR Y 0), (1, vI a0)] rfl (fun X hX C hR => ?_)
  refine g_aload_n (q := 0) C dX11_cut_0 rfl rfl ?_
  refine g_iload_n (q := 1) C dX11_cut_1 rfl rfl ?_
  refine g_cVi (As := [vI a0]) C clX11_195 clvX11_isFrame dX11_cut_2 kd_0 rfl (Nat.le_of_ble_eq_true rfl) rfl (by decide) (t_X11_isFrame (Cx.ok C) h) (fun r2 M1 h => ?_)
  obtain ⟨g3, h⟩ := h
  obtain ⟨ht, hf⟩ := h
  refine g_if_ne (tgt := 14) C dX11_cut_5 (by decide) g3 (fun c => ?_) (fun c => ?_)
  · have h := hf c
    refine g_aload_n (q := 0) C dX11_cut_14 rfl rfl ?_
    refine g_cVv (As := []) C clX11_296 clvX11_act dX11_cut_15 kd_0 rfl (Nat.le_of_ble_eq_true rfl) rfl (by decide) (t_X11_act (Cx.ok C) h) (fun M4 h => ?_)
    refine g_aload_n (q := 0) C dX11_cut_18 rfl rfl ?_
    refine g_getS (v := 40) C fX11_38 dX11_cut_19 kd_0 rfl ?_
    refine g_getS (v := 42) C fX11_135 dX11_cut_22 kd_40 rfl ?_
    refine g_iload_n (q := 1) C dX11_cut_25 rfl rfl ?_
    refine g_cVv (As := [vI a0]) C clX11_299 clvX5_remove dX11_cut_26 kd_42 rfl (Nat.le_of_ble_eq_true rfl) rfl (by decide) (t_X5_remove (Cx.ok C) h) (fun M5 h => ?_)
    refine g_iconst C dX11_cut_29 rfl ?_
    exact g_retz C hR dX11_cut_30 (by decide) h
  · have h := ht c
    refine g_aload_n (q := 0) C dX11_cut_8 rfl rfl ?_
    refine g_iconst C dX11_cut_9 rfl ?_
    refine g_cVi (As := [vI 3]) C clX11_95 clvX11_deny dX11_cut_10 kd_0 rfl (Nat.le_of_ble_eq_true rfl) rfl (by decide) (t_X11_deny (Cx.ok C) h) (fun r7 M6 h => ?_)
    obtain ⟨g8, h⟩ := h
    exact g_retz C hR dX11_cut_13 g8 h
set_option maxRecDepth 20000 in
theorem w_X11_watch_J38 {Y : YT} {X : CX} (C : Cx Y X cX11_watch 3 RX11 6) {Q : Int → Mem → Prop} (hR : Rt Y X (some .boolean) (PQi Y Q))   {M : Mem}  (h : m_X11_watch_J38  Q  M) : G Y X 3 38 [(0, vR Y 0)] ([]) M := by
  unfold m_X11_watch_J38 at h
  refine g_aload_n (q := 0) C dX11_watch_38 rfl rfl ?_
  refine g_iconst C dX11_watch_39 rfl ?_
  refine g_cVi (As := [vI 3]) C clX11_95 clvX11_deny dX11_watch_40 kd_0 rfl (Nat.le_of_ble_eq_true rfl) rfl (by decide) (t_X11_deny (Cx.ok C) h) (fun r2 M1 h => ?_)
  obtain ⟨g3, h⟩ := h
  exact g_retz C hR dX11_watch_43 g3 h
set_option maxRecDepth 20000 in
theorem w_X11_watch_J35 {Y : YT} {X : CX} (C : Cx Y X cX11_watch 3 RX11 6) {Q : Int → Mem → Prop} (hR : Rt Y X (some .boolean) (PQi Y Q)) {v1 : Int} {s0 : Int} {s1 : Int}  {M : Mem}  (h : m_X11_watch_J35  Q v1 s0 s1 M) : G Y X 3 35 [(0, vR Y 0), (1, vI v1)] ((vI s1) :: (vI s0) :: []) M := by
  unfold m_X11_watch_J35 at h
  obtain ⟨g4, h⟩ := h
  obtain ⟨g5, h⟩ := h
  obtain ⟨ht, hf⟩ := h
  refine g_icmp_ne (tgt := 44) C dX11_watch_35 (by decide) g4 g5 (fun c => ?_) (fun c => ?_)
  · have h := hf c
    refine g_aload_n (q := 0) C dX11_watch_44 rfl rfl ?_
    refine g_cVv (As := []) C clX11_296 clvX11_act dX11_watch_45 kd_0 rfl (Nat.le_of_ble_eq_true rfl) rfl (by decide) (t_X11_act (Cx.ok C) h) (fun M6 h => ?_)
    refine g_aload_n (q := 0) C dX11_watch_48 rfl rfl ?_
    refine g_getS (v := 40) C fX11_38 dX11_watch_49 kd_0 rfl ?_
    refine g_dup C dX11_watch_52 rfl ?_
    refine g_getI C fX11_144 (by decide) dX11_watch_53 kd_40 ?_
    refine g_iconst C dX11_watch_56 rfl ?_
    refine g_iload_n (q := 1) C dX11_watch_57 rfl rfl ?_
    refine g_ishl C dX11_watch_58 ?_
    refine g_ixor C dX11_watch_59 ?_
    obtain ⟨M7, e_M7⟩ : ∃ z : Mem, z = up M6 40 2 (zxor (M6 40 2) (zshl 1 v1)) := ⟨_, rfl⟩
    have h := h M7 e_M7
    refine g_putI C fX11_144 pX11_144 dX11_watch_60 kd_40 e_M7 ?_
    refine g_iconst C dX11_watch_63 rfl ?_
    exact g_retz C hR dX11_watch_64 (by decide) h
  · have h := ht c
    refine G.sub [0] rfl ?_
    exact w_X11_watch_J38 C hR  h
set_option maxRecDepth 20000 in
theorem t_X11_watch {l : Launch} {Y : YT} (hY : YOK Y) {a0 : Int} {a1 : Int} {M : Mem} {Q : Int → Mem → Prop} (h : m_X11_watch a0 a1 M Q) : Ctr l Y yX11_watch cX11_watch 3 (some .boolean) 6 [vR Y 0, vI a0, vI a1] M (PQi Y Q) := by
  unfold m_X11_watch at h
  refine ctr_ofF hY (by decide +kernel) (Nat.le_of_ble_eq_true rfl) [(0, vR Y 0), (1, vI a0), (2, vI a1)] rfl (fun X hX C hR => ?_)
  refine g_aload_n (q := 0) C dX11_watch_0 rfl rfl ?_
  refine g_iload_n (q := 1) C dX11_watch_1 rfl rfl ?_
  refine g_cVi (As := [vI a0]) C clX11_177 clvX11_isPerson dX11_watch_2 kd_0 rfl (Nat.le_of_ble_eq_true rfl) rfl (by decide) (t_X11_isPerson (Cx.ok C) h) (fun r9 M8 h => ?_)
  obtain ⟨g10, h⟩ := h
  obtain ⟨ht, hf⟩ := h
  refine g_if_eq (tgt := 38) C dX11_watch_5 (by decide) g10 (fun c => ?_) (fun c => ?_)
  · have h := ht c
    refine G.sub [0] rfl ?_
    exact w_X11_watch_J38 C hR  h
  · have h := hf c
    refine g_iload_n (q := 2) C dX11_watch_8 rfl rfl ?_
    obtain ⟨g11, h⟩ := h
    obtain ⟨ht, hf⟩ := h
    refine g_if_lt (tgt := 38) C dX11_watch_9 (by decide) g11 (fun c => ?_) (fun c => ?_)
    · have h := ht c
      refine G.sub [0] rfl ?_
      exact w_X11_watch_J38 C hR  h
    · have h := hf c
      refine g_iload_n (q := 2) C dX11_watch_12 rfl rfl ?_
      refine g_iconst C dX11_watch_13 rfl ?_
      obtain ⟨g12, h⟩ := h
      obtain ⟨ht, hf⟩ := h
      refine g_icmp_gt (tgt := 38) C dX11_watch_14 (by decide) g12 (by decide) (fun c => ?_) (fun c => ?_)
      · have h := ht c
        refine G.sub [0] rfl ?_
        exact w_X11_watch_J38 C hR  h
      · have h := hf c
        refine g_aload_n (q := 0) C dX11_watch_17 rfl rfl ?_
        refine g_getS (v := 40) C fX11_38 dX11_watch_18 kd_0 rfl ?_
        refine g_iload_n (q := 1) C dX11_watch_21 rfl rfl ?_
        refine g_cVi (As := [vI a0]) C clX11_192 clvX6_watches dX11_watch_22 kd_40 rfl (Nat.le_of_ble_eq_true rfl) rfl (by decide) (t_X6_watches (Cx.ok C) h) (fun r14 M13 h => ?_)
        refine g_iload_n (q := 2) C dX11_watch_25 rfl rfl ?_
        refine g_iconst C dX11_watch_26 rfl ?_
        obtain ⟨g15, h⟩ := h
        obtain ⟨ht, hf⟩ := h
        refine g_icmp_ne (tgt := 34) C dX11_watch_27 (by decide) g15 (by decide) (fun c => ?_) (fun c => ?_)
        · have h := hf c
          refine g_iconst C dX11_watch_34 rfl ?_
          refine G.sub [0, 1] rfl ?_
          exact w_X11_watch_J35 C hR  h
        · have h := ht c
          refine g_iconst C dX11_watch_30 rfl ?_
          refine g_goto (tgt := 35) C dX11_watch_31 (by decide) ?_
          refine G.sub [0, 1] rfl ?_
          exact w_X11_watch_J35 C hR  h
set_option maxRecDepth 20000 in
theorem w_X11_send_J29 {Y : YT} {X : CX} (C : Cx Y X cX11_send 3 RX11 6) {Q : Int → Mem → Prop} (hR : Rt Y X (some .boolean) (PQi Y Q))   {M : Mem}  (h : m_X11_send_J29  Q  M) : G Y X 3 29 [(0, vR Y 0)] ([]) M := by
  unfold m_X11_send_J29 at h
  refine g_aload_n (q := 0) C dX11_send_29 rfl rfl ?_
  refine g_iconst C dX11_send_30 rfl ?_
  refine g_cVi (As := [vI 3]) C clX11_95 clvX11_deny dX11_send_31 kd_0 rfl (Nat.le_of_ble_eq_true rfl) rfl (by decide) (t_X11_deny (Cx.ok C) h) (fun r2 M1 h => ?_)
  obtain ⟨g3, h⟩ := h
  exact g_retz C hR dX11_send_34 g3 h
set_option maxRecDepth 20000 in
theorem t_X11_send {l : Launch} {Y : YT} (hY : YOK Y) {a0 : Int} {a1 : Int} {M : Mem} {Q : Int → Mem → Prop} (h : m_X11_send a0 a1 M Q) : Ctr l Y yX11_send cX11_send 3 (some .boolean) 6 [vR Y 0, vI a0, vI a1] M (PQi Y Q) := by
  unfold m_X11_send at h
  refine ctr_ofF hY (by decide +kernel) (Nat.le_of_ble_eq_true rfl) [(0, vR Y 0), (1, vI a0), (2, vI a1)] rfl (fun X hX C hR => ?_)
  refine g_aload_n (q := 0) C dX11_send_0 rfl rfl ?_
  refine g_iload_n (q := 1) C dX11_send_1 rfl rfl ?_
  refine g_cVi (As := [vI a0]) C clX11_177 clvX11_isPerson dX11_send_2 kd_0 rfl (Nat.le_of_ble_eq_true rfl) rfl (by decide) (t_X11_isPerson (Cx.ok C) h) (fun r5 M4 h => ?_)
  obtain ⟨g6, h⟩ := h
  obtain ⟨ht, hf⟩ := h
  refine g_if_eq (tgt := 29) C dX11_send_5 (by decide) g6 (fun c => ?_) (fun c => ?_)
  · have h := ht c
    refine G.sub [0] rfl ?_
    exact w_X11_send_J29 C hR  h
  · have h := hf c
    refine g_aload_n (q := 0) C dX11_send_8 rfl rfl ?_
    refine g_iload_n (q := 2) C dX11_send_9 rfl rfl ?_
    refine g_cVi (As := [vI a1]) C clX11_167 clvX11_isPlace dX11_send_10 kd_0 rfl (Nat.le_of_ble_eq_true rfl) rfl (by decide) (t_X11_isPlace (Cx.ok C) h) (fun r8 M7 h => ?_)
    obtain ⟨g9, h⟩ := h
    obtain ⟨ht, hf⟩ := h
    refine g_if_eq (tgt := 29) C dX11_send_13 (by decide) g9 (fun c => ?_) (fun c => ?_)
    · have h := ht c
      refine G.sub [0] rfl ?_
      exact w_X11_send_J29 C hR  h
    · have h := hf c
      refine g_aload_n (q := 0) C dX11_send_16 rfl rfl ?_
      refine g_getS (v := 40) C fX11_38 dX11_send_17 kd_0 rfl ?_
      refine g_getS (v := 41) C fX11_186 dX11_send_20 kd_40 rfl ?_
      refine g_iload_n (q := 1) C dX11_send_23 rfl rfl ?_
      obtain ⟨g10, h⟩ := h
      refine g_iald C dX11_send_24 kd_41 ln_41 g10 ?_
      refine g_iload_n (q := 2) C dX11_send_25 rfl rfl ?_
      obtain ⟨g11, h⟩ := h
      obtain ⟨g12, h⟩ := h
      obtain ⟨ht, hf⟩ := h
      refine g_icmp_ne (tgt := 35) C dX11_send_26 (by decide) g11 g12 (fun c => ?_) (fun c => ?_)
      · have h := hf c
        refine g_aload_n (q := 0) C dX11_send_35 rfl rfl ?_
        refine g_cVv (As := []) C clX11_296 clvX11_act dX11_send_36 kd_0 rfl (Nat.le_of_ble_eq_true rfl) rfl (by decide) (t_X11_act (Cx.ok C) h) (fun M13 h => ?_)
        refine g_aload_n (q := 0) C dX11_send_39 rfl rfl ?_
        refine g_getS (v := 40) C fX11_38 dX11_send_40 kd_0 rfl ?_
        refine g_getS (v := 41) C fX11_186 dX11_send_43 kd_40 rfl ?_
        refine g_iload_n (q := 1) C dX11_send_46 rfl rfl ?_
        refine g_iload_n (q := 2) C dX11_send_47 rfl rfl ?_
        obtain ⟨g14, h⟩ := h
        obtain ⟨M15, e_M15⟩ : ∃ z : Mem, z = up M13 41 a0 a1 := ⟨_, rfl⟩
        have h := h M15 e_M15
        refine g_iast C dX11_send_48 kd_41 ln_41 g14 e_M15 ?_
        refine g_iconst C dX11_send_49 rfl ?_
        exact g_retz C hR dX11_send_50 (by decide) h
      · have h := ht c
        refine G.sub [0] rfl ?_
        exact w_X11_send_J29 C hR  h
set_option maxRecDepth 20000 in
theorem t_X11_undo {l : Launch} {Y : YT} (hY : YOK Y) {M : Mem} {Q : Int → Mem → Prop} (h : m_X11_undo  M Q) : Ctr l Y yX11_undo cX11_undo 1 (some .boolean) 5 [vR Y 0] M (PQi Y Q) := by
  unfold m_X11_undo at h
  refine ctr_ofF hY (by decide +kernel) (Nat.le_of_ble_eq_true rfl) [(0, vR Y 0)] rfl (fun X hX C hR => ?_)
  refine g_aload_n (q := 0) C dX11_undo_0 rfl rfl ?_
  refine g_getS (v := 62) C fX11_58 dX11_undo_1 kd_0 rfl ?_
  refine g_aload_n (q := 0) C dX11_undo_4 rfl rfl ?_
  refine g_getS (v := 40) C fX11_38 dX11_undo_5 kd_0 rfl ?_
  refine g_cVi (As := [vR Y 40]) C clX11_302 clvX3_bringBack dX11_undo_8 kd_62 rfl (Nat.le_of_ble_eq_true rfl) rfl (by decide) (t_X3_bringBack (Cx.ok C) h) (fun r2 M1 h => ?_)
  obtain ⟨g3, h⟩ := h
  obtain ⟨ht, hf⟩ := h
  refine g_if_ne (tgt := 20) C dX11_undo_11 (by decide) g3 (fun c => ?_) (fun c => ?_)
  · have h := hf c
    refine g_aload_n (q := 0) C dX11_undo_20 rfl rfl ?_
    refine g_iconst C dX11_undo_21 rfl ?_
    obtain ⟨M4, e_M4⟩ : ∃ z : Mem, z = up M1 0 8 0 := ⟨_, rfl⟩
    have h := h M4 e_M4
    refine g_putZ C fX11_113 pX11_113 dX11_undo_22 kd_0 (by decide) e_M4 ?_
    refine g_iconst C dX11_undo_25 rfl ?_
    exact g_retz C hR dX11_undo_26 (by decide) h
  · have h := ht c
    refine g_aload_n (q := 0) C dX11_undo_14 rfl rfl ?_
    refine g_iconst C dX11_undo_15 rfl ?_
    refine g_cVi (As := [vI 4]) C clX11_95 clvX11_deny dX11_undo_16 kd_0 rfl (Nat.le_of_ble_eq_true rfl) rfl (by decide) (t_X11_deny (Cx.ok C) h) (fun r6 M5 h => ?_)
    obtain ⟨g7, h⟩ := h
    exact g_retz C hR dX11_undo_19 g7 h
set_option maxRecDepth 20000 in
theorem t_X11_seed {l : Launch} {Y : YT} (hY : YOK Y) {a0 : Int} {M : Mem} {Q : Int → Mem → Prop} (h : m_X11_seed a0 M Q) : Ctr l Y yX11_seed cX11_seed 2 (some .boolean) 2 [vR Y 0, vI a0] M (PQi Y Q) := by
  unfold m_X11_seed at h
  refine ctr_ofF hY (by decide +kernel) (Nat.le_of_ble_eq_true rfl) [(0, vR Y 0), (1, vI a0)] rfl (fun X hX C hR => ?_)
  refine g_iload_n (q := 1) C dX11_seed_0 rfl rfl ?_
  obtain ⟨g1, h⟩ := h
  obtain ⟨ht, hf⟩ := h
  refine g_if_ge (tgt := 10) C dX11_seed_1 (by decide) g1 (fun c => ?_) (fun c => ?_)
  · have h := ht c
    refine g_aload_n (q := 0) C dX11_seed_10 rfl rfl ?_
    refine g_iload_n (q := 1) C dX11_seed_11 rfl rfl ?_
    obtain ⟨M2, e_M2⟩ : ∃ z : Mem, z = up M 0 13 a0 := ⟨_, rfl⟩
    have h := h M2 e_M2
    refine g_putI C fX11_80 pX11_80 dX11_seed_12 kd_0 e_M2 ?_
    refine g_iconst C dX11_seed_15 rfl ?_
    exact g_retz C hR dX11_seed_16 (by decide) h
  · have h := hf c
    refine g_aload_n (q := 0) C dX11_seed_4 rfl rfl ?_
    refine g_iconst C dX11_seed_5 rfl ?_
    refine g_cVi (As := [vI 5]) C clX11_95 clvX11_deny dX11_seed_6 kd_0 rfl (Nat.le_of_ble_eq_true rfl) rfl (by decide) (t_X11_deny (Cx.ok C) h) (fun r4 M3 h => ?_)
    obtain ⟨g5, h⟩ := h
    exact g_retz C hR dX11_seed_9 g5 h
set_option maxRecDepth 20000 in
theorem w_X11_kept_J23 {Y : YT} {X : CX} (C : Cx Y X cX11_kept 4 RX11 3) {Q : Int → Mem → Prop} (hR : Rt Y X (some .int) (PQi Y Q))   {M : Mem}  (h : m_X11_kept_J23  Q  M) : G Y X 4 23 [] ([]) M := by
  unfold m_X11_kept_J23 at h
  refine g_iconst C dX11_kept_23 rfl ?_
  exact g_reti C hR dX11_kept_24 h
set_option maxRecDepth 20000 in
theorem t_X11_kept {l : Launch} {Y : YT} (hY : YOK Y) {a0 : Int} {a1 : Int} {M : Mem} {Q : Int → Mem → Prop} (h : m_X11_kept a0 a1 M Q) : Ctr l Y yX11_kept cX11_kept 4 (some .int) 3 [vR Y 0, vI a0, vI a1] M (PQi Y Q) := by
  unfold m_X11_kept at h
  refine ctr_ofF hY (by decide +kernel) (Nat.le_of_ble_eq_true rfl) [(0, vR Y 0), (1, vI a0), (2, vI a1)] rfl (fun X hX C hR => ?_)
  refine g_aload_n (q := 0) C dX11_kept_0 rfl rfl ?_
  refine g_cVi (As := []) C clX11_160 clvX11_told dX11_kept_1 kd_0 rfl (Nat.le_of_ble_eq_true rfl) rfl (by decide) (t_X11_told (Cx.ok C) h) (fun r2 M1 h => ?_)
  refine g_istore_n (lv' := [(3, vI r2), (0, vR Y 0), (1, vI a0), (2, vI a1)]) C dX11_kept_4 rfl (by decide) rfl ?_
  refine g_iload_n (q := 2) C dX11_kept_5 rfl rfl ?_
  obtain ⟨g3, h⟩ := h
  obtain ⟨ht, hf⟩ := h
  refine g_if_lt (tgt := 23) C dX11_kept_6 (by decide) g3 (fun c => ?_) (fun c => ?_)
  · have h := ht c
    refine G.sub [] rfl ?_
    exact w_X11_kept_J23 C hR  h
  · have h := hf c
    refine g_iload_n (q := 2) C dX11_kept_9 rfl rfl ?_
    refine g_iload_n (q := 0) C dX11_kept_10 rfl rfl ?_
    obtain ⟨g4, h⟩ := h
    obtain ⟨g5, h⟩ := h
    obtain ⟨ht, hf⟩ := h
    refine g_icmp_ge (tgt := 23) C dX11_kept_11 (by decide) g4 g5 (fun c => ?_) (fun c => ?_)
    · have h := ht c
      refine G.sub [] rfl ?_
      exact w_X11_kept_J23 C hR  h
    · have h := hf c
      refine g_iload_n (q := 3) C dX11_kept_14 rfl rfl ?_
      obtain ⟨g6, h⟩ := h
      obtain ⟨ht, hf⟩ := h
      refine g_if_lt (tgt := 23) C dX11_kept_15 (by decide) g6 (fun c => ?_) (fun c => ?_)
      · have h := ht c
        refine G.sub [] rfl ?_
        exact w_X11_kept_J23 C hR  h
      · have h := hf c
        refine g_iload_n (q := 3) C dX11_kept_18 rfl rfl ?_
        refine g_iconst C dX11_kept_19 rfl ?_
        obtain ⟨g7, h⟩ := h
        obtain ⟨ht, hf⟩ := h
        refine g_icmp_le (tgt := 25) C dX11_kept_20 (by decide) g7 (by decide) (fun c => ?_) (fun c => ?_)
        · have h := ht c
          refine g_aload_n (q := 1) C dX11_kept_25 rfl rfl ?_
          refine g_getS (v := 62) C fX11_58 dX11_kept_26 kd_0 rfl ?_
          refine g_aload_n (q := 1) C dX11_kept_29 rfl rfl ?_
          refine g_getS (v := 40) C fX11_38 dX11_kept_30 kd_0 rfl ?_
          refine g_getI C fX11_306 (by decide) dX11_kept_33 kd_40 ?_
          refine g_iload_n (q := 0) C dX11_kept_36 rfl rfl ?_
          refine g_isub C dX11_kept_37 ?_
          refine g_iload_n (q := 2) C dX11_kept_38 rfl rfl ?_
          refine g_iadd C dX11_kept_39 ?_
          refine g_iload_n (q := 3) C dX11_kept_40 rfl rfl ?_
          refine g_cVi (As := [vI (((M1 40 4) - r2) + a0), vI a1]) C clX11_309 clvX3_keptOf dX11_kept_41 kd_62 rfl (Nat.le_of_ble_eq_true rfl) rfl (by decide) (t_X3_keptOf (Cx.ok C) h) (fun r9 M8 h => ?_)
          exact g_reti C hR dX11_kept_44 h
        · have h := hf c
          refine G.sub [] rfl ?_
          exact w_X11_kept_J23 C hR  h
set_option maxRecDepth 20000 in
theorem t_X11_image {l : Launch} {Y : YT} (hY : YOK Y) {M : Mem} {Q : Int → Mem → Prop} (h : m_X11_image  M Q) : Ctr l Y yX11_image cX11_image 1 (some .int) 3 [vR Y 0] M (PQi Y Q) := by
  unfold m_X11_image at h
  refine ctr_ofF hY (by decide +kernel) (Nat.le_of_ble_eq_true rfl) [(0, vR Y 0)] rfl (fun X hX C hR => ?_)
  refine g_aload_n (q := 0) C dX11_image_0 rfl rfl ?_
  refine g_getS (v := 185) C fX11_65 dX11_image_1 kd_0 rfl ?_
  refine g_aload_n (q := 0) C dX11_image_4 rfl rfl ?_
  obtain ⟨g1, h⟩ := h
  refine g_getM C fX11_28 dX11_image_5 kd_0 (kd_in g1 (by decide)).1 ?_
  refine g_aload_n (q := 0) C dX11_image_8 rfl rfl ?_
  refine g_getS (v := 40) C fX11_38 dX11_image_9 kd_0 rfl ?_
  refine g_cVv (As := [vR Y (M 0 2), vR Y 40]) C clX11_312 clvX4_write dX11_image_12 kd_185 rfl (Nat.le_of_ble_eq_true rfl) rfl (by decide) (t_X4_write (Cx.ok C) h) (fun M2 h => ?_)
  refine g_aload_n (q := 0) C dX11_image_15 rfl rfl ?_
  refine g_getS (v := 185) C fX11_65 dX11_image_16 kd_0 rfl ?_
  refine g_getI C fX11_315 (by decide) dX11_image_19 kd_185 ?_
  exact g_reti C hR dX11_image_22 h
set_option maxRecDepth 20000 in
theorem w_X11_octet_J28 {Y : YT} {X : CX} (C : Cx Y X cX11_octet 2 RX11 1) {Q : Int → Mem → Prop} (hR : Rt Y X (some .int) (PQi Y Q)) {s0 : Int}  {M : Mem}  (h : m_X11_octet_J28  Q s0 M) : G Y X 2 28 [] ((vI s0) :: []) M := by
  unfold m_X11_octet_J28 at h
  exact g_reti C hR dX11_octet_28 h
set_option maxRecDepth 20000 in
theorem w_X11_octet_J27 {Y : YT} {X : CX} (C : Cx Y X cX11_octet 2 RX11 1) {Q : Int → Mem → Prop} (hR : Rt Y X (some .int) (PQi Y Q))   {M : Mem}  (h : m_X11_octet_J27  Q  M) : G Y X 2 27 [] ([]) M := by
  unfold m_X11_octet_J27 at h
  refine g_iconst C dX11_octet_27 rfl ?_
  refine G.sub [] rfl ?_
  exact w_X11_octet_J28 C hR  h
set_option maxRecDepth 20000 in
theorem t_X11_octet {l : Launch} {Y : YT} (hY : YOK Y) {a0 : Int} {M : Mem} {Q : Int → Mem → Prop} (h : m_X11_octet a0 M Q) : Ctr l Y yX11_octet cX11_octet 2 (some .int) 1 [vR Y 0, vI a0] M (PQi Y Q) := by
  unfold m_X11_octet at h
  refine ctr_ofF hY (by decide +kernel) (Nat.le_of_ble_eq_true rfl) [(0, vR Y 0), (1, vI a0)] rfl (fun X hX C hR => ?_)
  refine g_iload_n (q := 1) C dX11_octet_0 rfl rfl ?_
  obtain ⟨g1, h⟩ := h
  obtain ⟨ht, hf⟩ := h
  refine g_if_lt (tgt := 27) C dX11_octet_1 (by decide) g1 (fun c => ?_) (fun c => ?_)
  · have h := ht c
    refine G.sub [] rfl ?_
    exact w_X11_octet_J27 C hR  h
  · have h := hf c
    refine g_iload_n (q := 1) C dX11_octet_4 rfl rfl ?_
    refine g_aload_n (q := 0) C dX11_octet_5 rfl rfl ?_
    refine g_getS (v := 185) C fX11_65 dX11_octet_6 kd_0 rfl ?_
    refine g_getI C fX11_315 (by decide) dX11_octet_9 kd_185 ?_
    obtain ⟨g2, h⟩ := h
    obtain ⟨g3, h⟩ := h
    obtain ⟨ht, hf⟩ := h
    refine g_icmp_ge (tgt := 27) C dX11_octet_12 (by decide) g2 g3 (fun c => ?_) (fun c => ?_)
    · have h := ht c
      refine G.sub [] rfl ?_
      exact w_X11_octet_J27 C hR  h
    · have h := hf c
      refine g_aload_n (q := 0) C dX11_octet_15 rfl rfl ?_
      refine g_getS (v := 185) C fX11_65 dX11_octet_16 kd_0 rfl ?_
      refine g_getS (v := 186) C fX11_316 dX11_octet_19 kd_185 rfl ?_
      refine g_iload_n (q := 1) C dX11_octet_22 rfl rfl ?_
      obtain ⟨g4, h⟩ := h
      refine g_iald C dX11_octet_23 kd_186 ln_186 g4 ?_
      refine g_goto (tgt := 28) C dX11_octet_24 (by decide) ?_
      refine G.sub [] rfl ?_
      exact w_X11_octet_J28 C hR  h
set_option maxRecDepth 20000 in
theorem t_X11_on {l : Launch} {Y : YT} (hY : YOK Y) {M : Mem} {Q : Int → Mem → Prop} (h : m_X11_on  M Q) : Ctr l Y yX11_on cX11_on 2 (some .boolean) 5 [vR Y 0] M (PQi Y Q) := by
  unfold m_X11_on at h
  refine ctr_ofF hY (by decide +kernel) (Nat.le_of_ble_eq_true rfl) [(0, vR Y 0)] rfl (fun X hX C hR => ?_)
  refine g_aload_n (q := 0) C dX11_on_0 rfl rfl ?_
  refine g_getS (v := 1) C fX11_10 dX11_on_1 kd_0 rfl ?_
  refine g_aload_n (q := 0) C dX11_on_4 rfl rfl ?_
  obtain ⟨g1, h⟩ := h
  refine g_getM C fX11_28 dX11_on_5 kd_0 (kd_in g1 (by decide)).1 ?_
  refine g_aload_n (q := 0) C dX11_on_8 rfl rfl ?_
  refine g_getS (v := 46) C fX11_42 dX11_on_9 kd_0 rfl ?_
  refine g_cSi (As := [vR Y 1, vR Y (M 0 2), vR Y 46]) C clX11_319 clsX4_read dX11_on_12 rfl (Nat.le_of_ble_eq_true rfl) rfl (by decide) (t_X4_read (Cx.ok C) h) (fun r3 M2 h => ?_)
  refine g_istore_n (lv' := [(1, vI r3), (0, vR Y 0)]) C dX11_on_15 rfl (by decide) rfl ?_
  refine g_aload_n (q := 1) C dX11_on_16 rfl rfl ?_
  refine g_getS (v := 1) C fX11_10 dX11_on_17 kd_0 rfl ?_
  refine g_iconst C dX11_on_20 rfl ?_
  obtain ⟨M4, e_M4⟩ : ∃ z : Mem, z = up M2 1 1 0 := ⟨_, rfl⟩
  have h := h M4 e_M4
  refine g_putI C fX11_84 pX11_84 dX11_on_21 kd_1 e_M4 ?_
  refine g_iload_n (q := 0) C dX11_on_24 rfl rfl ?_
  obtain ⟨g5, h⟩ := h
  obtain ⟨ht, hf⟩ := h
  refine g_if_ne (tgt := 34) C dX11_on_25 (by decide) g5 (fun c => ?_) (fun c => ?_)
  · have h := hf c
    refine g_aload_n (q := 1) C dX11_on_34 rfl rfl ?_
    refine g_getS (v := 40) C fX11_38 dX11_on_35 kd_0 rfl ?_
    refine g_aload_n (q := 1) C dX11_on_38 rfl rfl ?_
    refine g_getS (v := 46) C fX11_42 dX11_on_39 kd_0 rfl ?_
    refine g_cVv (As := [vR Y 46]) C clX11_224 clvX6_copy dX11_on_42 kd_40 rfl (Nat.le_of_ble_eq_true rfl) rfl (by decide) (t_X6_copy (Cx.ok C) h) (fun M6 h => ?_)
    refine g_aload_n (q := 1) C dX11_on_45 rfl rfl ?_
    refine g_getS (v := 62) C fX11_58 dX11_on_46 kd_0 rfl ?_
    refine g_cVv (As := []) C clX11_107 clvX3_forget dX11_on_49 kd_62 rfl (Nat.le_of_ble_eq_true rfl) rfl (by decide) (t_X3_forget (Cx.ok C) h) (fun M7 h => ?_)
    refine g_aload_n (q := 1) C dX11_on_52 rfl rfl ?_
    refine g_iconst C dX11_on_53 rfl ?_
    obtain ⟨M8, e_M8⟩ : ∃ z : Mem, z = up M7 0 8 0 := ⟨_, rfl⟩
    have h := h M8 e_M8
    refine g_putZ C fX11_113 pX11_113 dX11_on_54 kd_0 (by decide) e_M8 ?_
    refine g_iconst C dX11_on_57 rfl ?_
    exact g_retz C hR dX11_on_58 (by decide) h
  · have h := ht c
    refine g_aload_n (q := 1) C dX11_on_28 rfl rfl ?_
    refine g_iconst C dX11_on_29 rfl ?_
    refine g_cVi (As := [vI 5]) C clX11_95 clvX11_deny dX11_on_30 kd_0 rfl (Nat.le_of_ble_eq_true rfl) rfl (by decide) (t_X11_deny (Cx.ok C) h) (fun r10 M9 h => ?_)
    obtain ⟨g11, h⟩ := h
    exact g_retz C hR dX11_on_33 g11 h
set_option maxRecDepth 20000 in
theorem w_X11_status_J23 {Y : YT} {X : CX} (C : Cx Y X cX11_status 2 RX11 1) {Q : Int → Mem → Prop} (hR : Rt Y X (some .int) (PQi Y Q)) {s0 : Int}  {M : Mem}  (h : m_X11_status_J23  Q s0 M) : G Y X 2 23 [] ((vI s0) :: []) M := by
  unfold m_X11_status_J23 at h
  exact g_reti C hR dX11_status_23 h
set_option maxRecDepth 20000 in
theorem w_X11_status_J22 {Y : YT} {X : CX} (C : Cx Y X cX11_status 2 RX11 1) {Q : Int → Mem → Prop} (hR : Rt Y X (some .int) (PQi Y Q))   {M : Mem}  (h : m_X11_status_J22  Q  M) : G Y X 2 22 [] ([]) M := by
  unfold m_X11_status_J22 at h
  refine g_iconst C dX11_status_22 rfl ?_
  refine G.sub [] rfl ?_
  exact w_X11_status_J23 C hR  h
set_option maxRecDepth 20000 in
theorem t_X11_status {l : Launch} {Y : YT} (hY : YOK Y) {a0 : Int} {M : Mem} {Q : Int → Mem → Prop} (h : m_X11_status a0 M Q) : Ctr l Y yX11_status cX11_status 2 (some .int) 1 [vR Y 0, vI a0] M (PQi Y Q) := by
  unfold m_X11_status at h
  refine ctr_ofF hY (by decide +kernel) (Nat.le_of_ble_eq_true rfl) [(0, vR Y 0), (1, vI a0)] rfl (fun X hX C hR => ?_)
  refine g_iload_n (q := 1) C dX11_status_0 rfl rfl ?_
  obtain ⟨g1, h⟩ := h
  obtain ⟨ht, hf⟩ := h
  refine g_if_lt (tgt := 22) C dX11_status_1 (by decide) g1 (fun c => ?_) (fun c => ?_)
  · have h := ht c
    refine G.sub [] rfl ?_
    exact w_X11_status_J22 C hR  h
  · have h := hf c
    refine g_iload_n (q := 1) C dX11_status_4 rfl rfl ?_
    refine g_aload_n (q := 0) C dX11_status_5 rfl rfl ?_
    refine g_getS (v := 198) C fX11_76 dX11_status_6 kd_0 rfl ?_
    refine g_len C dX11_status_9 kd_198 ?_
    obtain ⟨g2, h⟩ := h
    obtain ⟨ht, hf⟩ := h
    refine g_icmp_ge (tgt := 22) C dX11_status_10 (by decide) g2 (by decide) (fun c => ?_) (fun c => ?_)
    · have h := ht c
      refine G.sub [] rfl ?_
      exact w_X11_status_J22 C hR  h
    · have h := hf c
      refine g_aload_n (q := 0) C dX11_status_13 rfl rfl ?_
      refine g_getS (v := 198) C fX11_76 dX11_status_14 kd_0 rfl ?_
      refine g_iload_n (q := 1) C dX11_status_17 rfl rfl ?_
      obtain ⟨g3, h⟩ := h
      refine g_iald C dX11_status_18 kd_198 ln_198 g3 ?_
      refine g_goto (tgt := 23) C dX11_status_19 (by decide) ?_
      refine G.sub [] rfl ?_
      exact w_X11_status_J23 C hR  h
set_option maxRecDepth 20000 in
theorem w_X12_is_J15 {Y : YT} {X : CX} (C : Cx Y X cX12_is 3 RX12 1) {Q : Int → Mem → Prop} (hR : Rt Y X (some .boolean) (PQi Y Q)) {s0 : Int}  {M : Mem}  (h : m_X12_is_J15  Q s0 M) : G Y X 3 15 [] ((vI s0) :: []) M := by
  unfold m_X12_is_J15 at h
  obtain ⟨g1, h⟩ := h
  exact g_retz C hR dX12_is_15 g1 h
set_option maxRecDepth 20000 in
theorem w_X12_is_J14 {Y : YT} {X : CX} (C : Cx Y X cX12_is 3 RX12 1) {Q : Int → Mem → Prop} (hR : Rt Y X (some .boolean) (PQi Y Q))   {M : Mem}  (h : m_X12_is_J14  Q  M) : G Y X 3 14 [] ([]) M := by
  unfold m_X12_is_J14 at h
  refine g_iconst C dX12_is_14 rfl ?_
  refine G.sub [] rfl ?_
  exact w_X12_is_J15 C hR  h
set_option maxRecDepth 20000 in
theorem t_X12_is {l : Launch} {Y : YT} (hY : YOK Y) {a0 : Int} {a1 : Int} {a2 : Int} {M : Mem} {Q : Int → Mem → Prop} (h : m_X12_is a0 a1 a2 M Q) : Ctr l Y yX12_is cX12_is 3 (some .boolean) 1 [vI a0, vI a1, vI a2] M (PQi Y Q) := by
  unfold m_X12_is at h
  refine ctr_ofF hY (by decide +kernel) (Nat.le_of_ble_eq_true rfl) [(0, vI a0), (1, vI a1), (2, vI a2)] rfl (fun X hX C hR => ?_)
  refine g_iload_n (q := 0) C dX12_is_0 rfl rfl ?_
  refine g_iload_n (q := 1) C dX12_is_1 rfl rfl ?_
  obtain ⟨g2, h⟩ := h
  obtain ⟨g3, h⟩ := h
  obtain ⟨ht, hf⟩ := h
  refine g_icmp_lt (tgt := 14) C dX12_is_2 (by decide) g2 g3 (fun c => ?_) (fun c => ?_)
  · have h := ht c
    refine G.sub [] rfl ?_
    exact w_X12_is_J14 C hR  h
  · have h := hf c
    refine g_iload_n (q := 0) C dX12_is_5 rfl rfl ?_
    refine g_iload_n (q := 2) C dX12_is_6 rfl rfl ?_
    obtain ⟨g4, h⟩ := h
    obtain ⟨g5, h⟩ := h
    obtain ⟨ht, hf⟩ := h
    refine g_icmp_gt (tgt := 14) C dX12_is_7 (by decide) g4 g5 (fun c => ?_) (fun c => ?_)
    · have h := ht c
      refine G.sub [] rfl ?_
      exact w_X12_is_J14 C hR  h
    · have h := hf c
      refine g_iconst C dX12_is_10 rfl ?_
      refine g_goto (tgt := 15) C dX12_is_11 (by decide) ?_
      refine G.sub [] rfl ?_
      exact w_X12_is_J15 C hR  h
set_option maxRecDepth 20000 in
theorem w_X12_put_L3 {Y : YT} {X : CX} (C : Cx Y X cX12_put 3 RX12 1) {Q : Mem → Prop} (hR : Rt Y X none (PQv Y Q)) {v1 : Int}  : ∀ (f : Nat) (v2 : Int) (M : Mem), m_X12_put_L3  Q v1 f v2 M → G Y X 3 3 [(0, vR Y 199), (1, vI v1), (2, vI v2)] ([]) M := by
  intro f
  induction f with
  | zero =>
    intro v2 M h
    exact (show False from h).elim
  | succ f ih =>
    intro v2 M h
    unfold m_X12_put_L3 at h
    refine g_iload_n (q := 2) C dX12_put_3 rfl rfl ?_
    obtain ⟨g1, h⟩ := h
    obtain ⟨ht, hf⟩ := h
    refine g_if_lt (tgt := 39) C dX12_put_4 (by decide) g1 (fun c => ?_) (fun c => ?_)
    · have h := ht c
      exact g_retv C hR dX12_put_39 h
    · have h := hf c
      refine g_aload_n (q := 0) C dX12_put_7 rfl rfl ?_
      refine g_getS (v := 200) C fX12_7 dX12_put_8 kd_199 rfl ?_
      refine g_aload_n (q := 0) C dX12_put_11 rfl rfl ?_
      refine g_getI C fX12_13 (by decide) dX12_put_12 kd_199 ?_
      refine g_iload_n (q := 1) C dX12_put_15 rfl rfl ?_
      refine g_iload_n (q := 2) C dX12_put_16 rfl rfl ?_
      refine g_ishr C dX12_put_17 ?_
      refine g_sipush (v := 255) C dX12_put_18 (by decide +kernel) ?_
      refine g_iand C dX12_put_21 ?_
      obtain ⟨g2, h⟩ := h
      obtain ⟨M3, e_M3⟩ : ∃ z : Mem, z = up M 200 (M 199 1) (zand (zshr v1 v2) 255) := ⟨_, rfl⟩
      have h := h M3 e_M3
      refine g_iast C dX12_put_22 kd_200 ln_200 g2 e_M3 ?_
      refine g_aload_n (q := 0) C dX12_put_23 rfl rfl ?_
      refine g_dup C dX12_put_24 rfl ?_
      refine g_getI C fX12_13 (by decide) dX12_put_25 kd_199 ?_
      refine g_iconst C dX12_put_28 rfl ?_
      refine g_iadd C dX12_put_29 ?_
      obtain ⟨M4, e_M4⟩ : ∃ z : Mem, z = up M3 199 1 ((M3 199 1) + 1) := ⟨_, rfl⟩
      have h := h M4 e_M4
      refine g_putI C fX12_13 pX12_13 dX12_put_30 kd_199 e_M4 ?_
      refine g_iinc (q := 2) (v := v2 + (-8)) (lv' := [(2, vI (v2 + (-8))), (0, vR Y 199), (1, vI v1)]) C dX12_put_33 rfl rfl (by decide) rfl ?_
      refine g_goto (tgt := 3) C dX12_put_36 (by decide) ?_
      refine G.sub [1, 2, 0] rfl ?_
      exact ih _ _ h
set_option maxRecDepth 20000 in
theorem t_X12_put {l : Launch} {Y : YT} (hY : YOK Y) {a0 : Int} {M : Mem} {Q : Mem → Prop} (h : m_X12_put a0 M Q) : Ctr l Y yX12_put cX12_put 3 none 1 [vR Y 199, vI a0] M (PQv Y Q) := by
  unfold m_X12_put at h
  refine ctr_ofF hY (by decide +kernel) (Nat.le_of_ble_eq_true rfl) [(0, vR Y 199), (1, vI a0)] rfl (fun X hX C hR => ?_)
  refine g_bipush (v := 24) C dX12_put_0 (by decide +kernel) ?_
  refine g_istore_n (lv' := [(2, vI 24), (0, vR Y 199), (1, vI a0)]) C dX12_put_2 rfl (by decide) rfl ?_
  obtain ⟨f0, h⟩ := h
  refine G.sub [1, 2, 0] rfl ?_
  exact w_X12_put_L3 C hR  f0 _ _ h
set_option maxRecDepth 20000 in
theorem t_X12_refuses {l : Launch} {Y : YT} (hY : YOK Y) {a0 : Int} {M : Mem} {Q : Int → Mem → Prop} (h : m_X12_refuses a0 M Q) : Ctr l Y yX12_refuses cX12_refuses 2 (some .int) 1 [vR Y 199, vI a0] M (PQi Y Q) := by
  unfold m_X12_refuses at h
  refine ctr_ofF hY (by decide +kernel) (Nat.le_of_ble_eq_true rfl) [(0, vR Y 199), (1, vI a0)] rfl (fun X hX C hR => ?_)
  refine g_aload_n (q := 0) C dX12_refuses_0 rfl rfl ?_
  refine g_getS (v := 226) C fX12_153 dX12_refuses_1 kd_199 rfl ?_
  refine g_iload_n (q := 1) C dX12_refuses_4 rfl rfl ?_
  refine g_dup2 C dX12_refuses_5 rfl rfl ?_
  obtain ⟨g1, h⟩ := h
  refine g_iald C dX12_refuses_6 kd_226 ln_226 g1 ?_
  refine g_iconst C dX12_refuses_7 rfl ?_
  refine g_iadd C dX12_refuses_8 ?_
  obtain ⟨g2, h⟩ := h
  obtain ⟨M3, e_M3⟩ : ∃ z : Mem, z = up M 226 a0 ((M 226 a0) + 1) := ⟨_, rfl⟩
  have h := h M3 e_M3
  refine g_iast C dX12_refuses_9 kd_226 ln_226 g2 e_M3 ?_
  refine g_iconst C dX12_refuses_10 rfl ?_
  exact g_reti C hR dX12_refuses_11 h
set_option maxRecDepth 20000 in
theorem t_X12_feed {l : Launch} {Y : YT} (hY : YOK Y) {a0 : Int} {a1 : Int} {a2 : Int} {a3 : Int} {a4 : Int} {M : Mem} {Q : Int → Mem → Prop} (h : m_X12_feed a0 a1 a2 a3 a4 M Q) : Ctr l Y yX12_feed cX12_feed 6 (some .int) 2 [vR Y 199, vI a0, vI a1, vI a2, vI a3, vI a4] M (PQi Y Q) := by
  unfold m_X12_feed at h
  refine ctr_ofF hY (by decide +kernel) (Nat.le_of_ble_eq_true rfl) [(0, vR Y 199), (1, vI a0), (2, vI a1), (3, vI a2), (4, vI a3), (5, vI a4)] rfl (fun X hX C hR => ?_)
  refine g_aload_n (q := 0) C dX12_feed_0 rfl rfl ?_
  refine g_getI C fX12_13 (by decide) dX12_feed_1 kd_199 ?_
  refine g_bipush (v := 20) C dX12_feed_4 (by decide +kernel) ?_
  refine g_iadd C dX12_feed_6 ?_
  refine g_sipush (v := 1600) C dX12_feed_7 (by decide +kernel) ?_
  obtain ⟨g1, h⟩ := h
  obtain ⟨ht, hf⟩ := h
  refine g_icmp_le (tgt := 19) C dX12_feed_10 (by decide) g1 (by decide) (fun c => ?_) (fun c => ?_)
  · have h := ht c
    refine g_aload_n (q := 0) C dX12_feed_19 rfl rfl ?_
    refine g_iload_n (q := 1) C dX12_feed_20 rfl rfl ?_
    refine g_cVv (As := [vI a0]) C clX12_220 clvX12_put dX12_feed_21 kd_199 rfl (Nat.le_of_ble_eq_true rfl) rfl (by decide) (t_X12_put (Cx.ok C) h) (fun M2 h => ?_)
    refine g_aload_n (q := 0) C dX12_feed_24 rfl rfl ?_
    refine g_iload_n (q := 2) C dX12_feed_25 rfl rfl ?_
    refine g_cVv (As := [vI a1]) C clX12_220 clvX12_put dX12_feed_26 kd_199 rfl (Nat.le_of_ble_eq_true rfl) rfl (by decide) (t_X12_put (Cx.ok C) h) (fun M3 h => ?_)
    refine g_aload_n (q := 0) C dX12_feed_29 rfl rfl ?_
    refine g_iload_n (q := 3) C dX12_feed_30 rfl rfl ?_
    refine g_cVv (As := [vI a2]) C clX12_220 clvX12_put dX12_feed_31 kd_199 rfl (Nat.le_of_ble_eq_true rfl) rfl (by decide) (t_X12_put (Cx.ok C) h) (fun M4 h => ?_)
    refine g_aload_n (q := 0) C dX12_feed_34 rfl rfl ?_
    refine g_iload (q := 4) C dX12_feed_35 rfl ?_
    refine g_cVv (As := [vI a3]) C clX12_220 clvX12_put dX12_feed_37 kd_199 rfl (Nat.le_of_ble_eq_true rfl) rfl (by decide) (t_X12_put (Cx.ok C) h) (fun M5 h => ?_)
    refine g_aload_n (q := 0) C dX12_feed_40 rfl rfl ?_
    refine g_iload (q := 5) C dX12_feed_41 rfl ?_
    refine g_cVv (As := [vI a4]) C clX12_220 clvX12_put dX12_feed_43 kd_199 rfl (Nat.le_of_ble_eq_true rfl) rfl (by decide) (t_X12_put (Cx.ok C) h) (fun M6 h => ?_)
    refine g_aload_n (q := 0) C dX12_feed_46 rfl rfl ?_
    refine g_getI C fX12_13 (by decide) dX12_feed_47 kd_199 ?_
    exact g_reti C hR dX12_feed_50 h
  · have h := hf c
    refine g_aload_n (q := 0) C dX12_feed_13 rfl rfl ?_
    refine g_iconst C dX12_feed_14 rfl ?_
    refine g_cVi (As := [vI 0]) C clX12_216 clvX12_refuses dX12_feed_15 kd_199 rfl (Nat.le_of_ble_eq_true rfl) rfl (by decide) (t_X12_refuses (Cx.ok C) h) (fun r8 M7 h => ?_)
    exact g_reti C hR dX12_feed_18 h
set_option maxRecDepth 20000 in
theorem w_X12_end_J25 {Y : YT} {X : CX} (C : Cx Y X cX12_end 2 RX12 2) {Q : Int → Mem → Prop} (hR : Rt Y X (some .boolean) (PQi Y Q)) {s0 : Int}  {M : Mem}  (h : m_X12_end_J25  Q s0 M) : G Y X 2 25 [] ((vI s0) :: []) M := by
  unfold m_X12_end_J25 at h
  obtain ⟨g1, h⟩ := h
  exact g_retz C hR dX12_end_25 g1 h
set_option maxRecDepth 20000 in
theorem w_X12_end_J12 {Y : YT} {X : CX} (C : Cx Y X cX12_end 2 RX12 2) {Q : Int → Mem → Prop} (hR : Rt Y X (some .boolean) (PQi Y Q))   {M : Mem}  (h : m_X12_end_J12  Q  M) : G Y X 2 12 [(0, vR Y 199)] ([]) M := by
  unfold m_X12_end_J12 at h
  refine g_aload_n (q := 0) C dX12_end_12 rfl rfl ?_
  refine g_iconst C dX12_end_13 rfl ?_
  refine g_cVi (As := [vI 0]) C clX12_216 clvX12_refuses dX12_end_14 kd_199 rfl (Nat.le_of_ble_eq_true rfl) rfl (by decide) (t_X12_refuses (Cx.ok C) h) (fun r3 M2 h => ?_)
  obtain ⟨g4, h⟩ := h
  obtain ⟨ht, hf⟩ := h
  refine g_if_lt (tgt := 24) C dX12_end_17 (by decide) g4 (fun c => ?_) (fun c => ?_)
  · have h := ht c
    refine g_iconst C dX12_end_24 rfl ?_
    refine G.sub [] rfl ?_
    exact w_X12_end_J25 C hR  h
  · have h := hf c
    refine g_iconst C dX12_end_20 rfl ?_
    refine g_goto (tgt := 25) C dX12_end_21 (by decide) ?_
    refine G.sub [] rfl ?_
    exact w_X12_end_J25 C hR  h
set_option maxRecDepth 20000 in
theorem t_X12_end {l : Launch} {Y : YT} (hY : YOK Y) {a0 : Int} {M : Mem} {Q : Int → Mem → Prop} (h : m_X12_end a0 M Q) : Ctr l Y yX12_end cX12_end 2 (some .boolean) 2 [vR Y 199, vI a0] M (PQi Y Q) := by
  unfold m_X12_end at h
  refine ctr_ofF hY (by decide +kernel) (Nat.le_of_ble_eq_true rfl) [(0, vR Y 199), (1, vI a0)] rfl (fun X hX C hR => ?_)
  refine g_iload_n (q := 1) C dX12_end_0 rfl rfl ?_
  obtain ⟨g5, h⟩ := h
  obtain ⟨ht, hf⟩ := h
  refine g_if_lt (tgt := 12) C dX12_end_1 (by decide) g5 (fun c => ?_) (fun c => ?_)
  · have h := ht c
    refine G.sub [0] rfl ?_
    exact w_X12_end_J12 C hR  h
  · have h := hf c
    refine g_iload_n (q := 1) C dX12_end_4 rfl rfl ?_
    refine g_aload_n (q := 0) C dX12_end_5 rfl rfl ?_
    refine g_getI C fX12_13 (by decide) dX12_end_6 kd_199 ?_
    obtain ⟨g6, h⟩ := h
    obtain ⟨g7, h⟩ := h
    obtain ⟨ht, hf⟩ := h
    refine g_icmp_le (tgt := 26) C dX12_end_9 (by decide) g6 g7 (fun c => ?_) (fun c => ?_)
    · have h := ht c
      refine g_aload_n (q := 0) C dX12_end_26 rfl rfl ?_
      refine g_iload_n (q := 1) C dX12_end_27 rfl rfl ?_
      obtain ⟨M8, e_M8⟩ : ∃ z : Mem, z = up M 199 1 a0 := ⟨_, rfl⟩
      have h := h M8 e_M8
      refine g_putI C fX12_13 pX12_13 dX12_end_28 kd_199 e_M8 ?_
      refine g_iconst C dX12_end_31 rfl ?_
      exact g_retz C hR dX12_end_32 (by decide) h
    · have h := hf c
      refine G.sub [0] rfl ?_
      exact w_X12_end_J12 C hR  h
set_option maxRecDepth 20000 in
theorem t_X12_blame {l : Launch} {Y : YT} (hY : YOK Y) {a0 : Int} {a1 : Int} {M : Mem} {Q : Mem → Prop} (h : m_X12_blame a0 a1 M Q) : Ctr l Y yX12_blame cX12_blame 3 none 1 [vR Y 199, vI a0, vI a1] M (PQv Y Q) := by
  unfold m_X12_blame at h
  refine ctr_ofF hY (by decide +kernel) (Nat.le_of_ble_eq_true rfl) [(0, vR Y 199), (1, vI a0), (2, vI a1)] rfl (fun X hX C hR => ?_)
  refine g_aload_n (q := 0) C dX12_blame_0 rfl rfl ?_
  refine g_getI C fX12_36 (by decide) dX12_blame_1 kd_199 ?_
  obtain ⟨g1, h⟩ := h
  obtain ⟨ht, hf⟩ := h
  refine g_if_le (tgt := 8) C dX12_blame_4 (by decide) g1 (fun c => ?_) (fun c => ?_)
  · have h := ht c
    refine g_aload_n (q := 0) C dX12_blame_8 rfl rfl ?_
    refine g_iload_n (q := 1) C dX12_blame_9 rfl rfl ?_
    obtain ⟨M2, e_M2⟩ : ∃ z : Mem, z = up M 199 8 a0 := ⟨_, rfl⟩
    have h := h M2 e_M2
    refine g_putI C fX12_36 pX12_36 dX12_blame_10 kd_199 e_M2 ?_
    refine g_aload_n (q := 0) C dX12_blame_13 rfl rfl ?_
    refine g_iload_n (q := 2) C dX12_blame_14 rfl rfl ?_
    obtain ⟨M3, e_M3⟩ : ∃ z : Mem, z = up M2 199 9 a1 := ⟨_, rfl⟩
    have h := h M3 e_M3
    refine g_putI C fX12_39 pX12_39 dX12_blame_15 kd_199 e_M3 ?_
    exact g_retv C hR dX12_blame_18 h
  · have h := hf c
    exact g_retv C hR dX12_blame_7 h
set_option maxRecDepth 20000 in
theorem w_X12_isLetter_J17 {Y : YT} {X : CX} (C : Cx Y X cX12_isLetter 1 RX12 1) {Q : Int → Mem → Prop} (hR : Rt Y X (some .boolean) (PQi Y Q)) {s0 : Int}  {M : Mem}  (h : m_X12_isLetter_J17  Q s0 M) : G Y X 1 17 [] ((vI s0) :: []) M := by
  unfold m_X12_isLetter_J17 at h
  obtain ⟨g1, h⟩ := h
  exact g_retz C hR dX12_isLetter_17 g1 h
set_option maxRecDepth 20000 in
theorem w_X12_isLetter_J16 {Y : YT} {X : CX} (C : Cx Y X cX12_isLetter 1 RX12 1) {Q : Int → Mem → Prop} (hR : Rt Y X (some .boolean) (PQi Y Q))   {M : Mem}  (h : m_X12_isLetter_J16  Q  M) : G Y X 1 16 [] ([]) M := by
  unfold m_X12_isLetter_J16 at h
  refine g_iconst C dX12_isLetter_16 rfl ?_
  refine G.sub [] rfl ?_
  exact w_X12_isLetter_J17 C hR  h
set_option maxRecDepth 20000 in
theorem t_X12_isLetter {l : Launch} {Y : YT} (hY : YOK Y) {a0 : Int} {M : Mem} {Q : Int → Mem → Prop} (h : m_X12_isLetter a0 M Q) : Ctr l Y yX12_isLetter cX12_isLetter 1 (some .boolean) 1 [vI a0] M (PQi Y Q) := by
  unfold m_X12_isLetter at h
  refine ctr_ofF hY (by decide +kernel) (Nat.le_of_ble_eq_true rfl) [(0, vI a0)] rfl (fun X hX C hR => ?_)
  refine g_iload_n (q := 0) C dX12_isLetter_0 rfl rfl ?_
  refine g_bipush (v := 97) C dX12_isLetter_1 (by decide +kernel) ?_
  obtain ⟨g2, h⟩ := h
  obtain ⟨ht, hf⟩ := h
  refine g_icmp_lt (tgt := 16) C dX12_isLetter_3 (by decide) g2 (by decide) (fun c => ?_) (fun c => ?_)
  · have h := ht c
    refine G.sub [] rfl ?_
    exact w_X12_isLetter_J16 C hR  h
  · have h := hf c
    refine g_iload_n (q := 0) C dX12_isLetter_6 rfl rfl ?_
    refine g_bipush (v := 122) C dX12_isLetter_7 (by decide +kernel) ?_
    obtain ⟨g3, h⟩ := h
    obtain ⟨ht, hf⟩ := h
    refine g_icmp_gt (tgt := 16) C dX12_isLetter_9 (by decide) g3 (by decide) (fun c => ?_) (fun c => ?_)
    · have h := ht c
      refine G.sub [] rfl ?_
      exact w_X12_isLetter_J16 C hR  h
    · have h := hf c
      refine g_iconst C dX12_isLetter_12 rfl ?_
      refine g_goto (tgt := 17) C dX12_isLetter_13 (by decide) ?_
      refine G.sub [] rfl ?_
      exact w_X12_isLetter_J17 C hR  h
set_option maxRecDepth 20000 in
theorem w_X12_isDigit_J17 {Y : YT} {X : CX} (C : Cx Y X cX12_isDigit 1 RX12 1) {Q : Int → Mem → Prop} (hR : Rt Y X (some .boolean) (PQi Y Q)) {s0 : Int}  {M : Mem}  (h : m_X12_isDigit_J17  Q s0 M) : G Y X 1 17 [] ((vI s0) :: []) M := by
  unfold m_X12_isDigit_J17 at h
  obtain ⟨g1, h⟩ := h
  exact g_retz C hR dX12_isDigit_17 g1 h
set_option maxRecDepth 20000 in
theorem w_X12_isDigit_J16 {Y : YT} {X : CX} (C : Cx Y X cX12_isDigit 1 RX12 1) {Q : Int → Mem → Prop} (hR : Rt Y X (some .boolean) (PQi Y Q))   {M : Mem}  (h : m_X12_isDigit_J16  Q  M) : G Y X 1 16 [] ([]) M := by
  unfold m_X12_isDigit_J16 at h
  refine g_iconst C dX12_isDigit_16 rfl ?_
  refine G.sub [] rfl ?_
  exact w_X12_isDigit_J17 C hR  h
set_option maxRecDepth 20000 in
theorem t_X12_isDigit {l : Launch} {Y : YT} (hY : YOK Y) {a0 : Int} {M : Mem} {Q : Int → Mem → Prop} (h : m_X12_isDigit a0 M Q) : Ctr l Y yX12_isDigit cX12_isDigit 1 (some .boolean) 1 [vI a0] M (PQi Y Q) := by
  unfold m_X12_isDigit at h
  refine ctr_ofF hY (by decide +kernel) (Nat.le_of_ble_eq_true rfl) [(0, vI a0)] rfl (fun X hX C hR => ?_)
  refine g_iload_n (q := 0) C dX12_isDigit_0 rfl rfl ?_
  refine g_bipush (v := 48) C dX12_isDigit_1 (by decide +kernel) ?_
  obtain ⟨g2, h⟩ := h
  obtain ⟨ht, hf⟩ := h
  refine g_icmp_lt (tgt := 16) C dX12_isDigit_3 (by decide) g2 (by decide) (fun c => ?_) (fun c => ?_)
  · have h := ht c
    refine G.sub [] rfl ?_
    exact w_X12_isDigit_J16 C hR  h
  · have h := hf c
    refine g_iload_n (q := 0) C dX12_isDigit_6 rfl rfl ?_
    refine g_bipush (v := 57) C dX12_isDigit_7 (by decide +kernel) ?_
    obtain ⟨g3, h⟩ := h
    obtain ⟨ht, hf⟩ := h
    refine g_icmp_gt (tgt := 16) C dX12_isDigit_9 (by decide) g3 (by decide) (fun c => ?_) (fun c => ?_)
    · have h := ht c
      refine G.sub [] rfl ?_
      exact w_X12_isDigit_J16 C hR  h
    · have h := hf c
      refine g_iconst C dX12_isDigit_12 rfl ?_
      refine g_goto (tgt := 17) C dX12_isDigit_13 (by decide) ?_
      refine G.sub [] rfl ?_
      exact w_X12_isDigit_J17 C hR  h
set_option maxRecDepth 20000 in
theorem w_X12_lex_J17 {Y : YT} {X : CX} (C : Cx Y X cX12_lex 1 RX12 2) {Q : Mem → Prop} (hR : Rt Y X none (PQv Y Q))   {M : Mem}  (h : m_X12_lex_J17  Q  M) : G Y X 1 17 [] ([]) M := by
  unfold m_X12_lex_J17 at h
  exact g_retv C hR dX12_lex_17 h
set_option maxRecDepth 20000 in
theorem t_X12_lex {l : Launch} {Y : YT} (hY : YOK Y) {M : Mem} {Q : Mem → Prop} (h : m_X12_lex  M Q) : Ctr l Y yX12_lex cX12_lex 1 none 2 [vR Y 199] M (PQv Y Q) := by
  unfold m_X12_lex at h
  refine ctr_ofF hY (by decide +kernel) (Nat.le_of_ble_eq_true rfl) [(0, vR Y 199)] rfl (fun X hX C hR => ?_)
  refine g_aload_n (q := 0) C dX12_lex_0 rfl rfl ?_
  refine g_getI C fX12_48 (by decide) dX12_lex_1 kd_199 ?_
  refine g_iconst C dX12_lex_4 rfl ?_
  obtain ⟨g1, h⟩ := h
  obtain ⟨ht, hf⟩ := h
  refine g_icmp_eq (tgt := 17) C dX12_lex_5 (by decide) g1 (by decide) (fun c => ?_) (fun c => ?_)
  · have h := ht c
    refine G.sub [] rfl ?_
    exact w_X12_lex_J17 C hR  h
  · have h := hf c
    refine g_aload_n (q := 0) C dX12_lex_8 rfl rfl ?_
    refine g_iconst C dX12_lex_9 rfl ?_
    refine g_aload_n (q := 0) C dX12_lex_10 rfl rfl ?_
    refine g_getI C fX12_48 (by decide) dX12_lex_11 kd_199 ?_
    refine g_cVv (As := [vI 1, vI (M 199 12)]) C clX12_224 clvX12_blame dX12_lex_14 kd_199 rfl (Nat.le_of_ble_eq_true rfl) rfl (by decide) (t_X12_blame (Cx.ok C) h) (fun M2 h => ?_)
    refine G.sub [] rfl ?_
    exact w_X12_lex_J17 C hR  h
set_option maxRecDepth 20000 in
theorem w_X12_ahead_J334 {Y : YT} {X : CX} (C : Cx Y X cX12_ahead 6 RX12 2) {Q : Mem → Prop} (hR : Rt Y X none (PQv Y Q)) {v1 : Int}  {M : Mem}  (h : m_X12_ahead_J334  Q v1 M) : G Y X 6 334 [(0, vR Y 199), (1, vI v1)] ([]) M := by
  unfold m_X12_ahead_J334 at h
  refine g_aload_n (q := 0) C dX12_ahead_334 rfl rfl ?_
  refine g_iload_n (q := 1) C dX12_ahead_335 rfl rfl ?_
  obtain ⟨M1, e_M1⟩ : ∃ z : Mem, z = up M 199 5 v1 := ⟨_, rfl⟩
  have h := h M1 e_M1
  refine g_putI C fX12_26 pX12_26 dX12_ahead_336 kd_199 e_M1 ?_
  exact g_retv C hR dX12_ahead_339 h
set_option maxRecDepth 20000 in
theorem w_X12_ahead_J325 {Y : YT} {X : CX} (C : Cx Y X cX12_ahead 6 RX12 2) {Q : Mem → Prop} (hR : Rt Y X none (PQv Y Q)) {v1 : Int} {v2 : Int} {v3 : Int} {v4 : Int} {v5 : Int} {k204 : Int → Int → Mem → Prop} (hk204 : ∀ (v1 : Int) (v5 : Int)  (M : Mem), k204 v1 v5 M → G Y X 6 204 [(0, vR Y 199), (1, vI v1), (2, vI v2), (3, vI v3), (4, vI v4), (5, vI v5)] ([]) M) {M : Mem}  (h : m_X12_ahead_J325 k204 Q v1 v2 v3 v4 v5 M) : G Y X 6 325 [(0, vR Y 199), (1, vI v1), (2, vI v2), (3, vI v3), (4, vI v4), (5, vI v5)] ([]) M := by
  unfold m_X12_ahead_J325 at h
  refine g_iinc (q := 5) (v := v5 + 1) (lv' := [(5, vI (v5 + 1)), (0, vR Y 199), (1, vI v1), (2, vI v2), (3, vI v3), (4, vI v4)]) C dX12_ahead_325 rfl rfl (by decide) rfl ?_
  refine g_iinc (q := 2) (v := v1 + 1) (lv' := [(1, vI (v1 + 1)), (5, vI (v5 + 1)), (0, vR Y 199), (2, vI v2), (3, vI v3), (4, vI v4)]) C dX12_ahead_328 rfl rfl (by decide) rfl ?_
  refine g_goto (tgt := 204) C dX12_ahead_331 (by decide) ?_
  refine G.sub [2, 0, 3, 4, 5, 1] rfl ?_
  exact hk204 _ _ _ h
set_option maxRecDepth 20000 in
theorem w_X12_ahead_J293 {Y : YT} {X : CX} (C : Cx Y X cX12_ahead 6 RX12 2) {Q : Mem → Prop} (hR : Rt Y X none (PQv Y Q)) {v1 : Int} {v2 : Int} {v3 : Int} {v4 : Int} {v5 : Int} {k204 : Int → Int → Mem → Prop} (hk204 : ∀ (v1 : Int) (v5 : Int)  (M : Mem), k204 v1 v5 M → G Y X 6 204 [(0, vR Y 199), (1, vI v1), (2, vI v2), (3, vI v3), (4, vI v4), (5, vI v5)] ([]) M) {M : Mem}  (h : m_X12_ahead_J293 k204 Q v1 v2 v3 v4 v5 M) : G Y X 6 293 [(0, vR Y 199), (1, vI v1), (2, vI v2), (3, vI v3), (4, vI v4), (5, vI v5)] ([]) M := by
  unfold m_X12_ahead_J293 at h
  refine g_iload (q := 5) C dX12_ahead_293 rfl ?_
  refine g_iload (q := 4) C dX12_ahead_295 rfl ?_
  obtain ⟨g2, h⟩ := h
  obtain ⟨g3, h⟩ := h
  obtain ⟨ht, hf⟩ := h
  refine g_icmp_ge (tgt := 325) C dX12_ahead_297 (by decide) g2 g3 (fun c => ?_) (fun c => ?_)
  · have h := ht c
    refine G.sub [0, 1, 2, 3, 4, 5] rfl ?_
    exact w_X12_ahead_J325 C hR (hk204)  h
  · have h := hf c
    refine g_iload_n (q := 3) C dX12_ahead_300 rfl rfl ?_
    obtain ⟨g4, h⟩ := h
    obtain ⟨ht, hf⟩ := h
    refine g_if_eq (tgt := 325) C dX12_ahead_301 (by decide) g4 (fun c => ?_) (fun c => ?_)
    · have h := ht c
      refine G.sub [0, 1, 2, 3, 4, 5] rfl ?_
      exact w_X12_ahead_J325 C hR (hk204)  h
    · have h := hf c
      refine g_aload_n (q := 0) C dX12_ahead_304 rfl rfl ?_
      refine g_bipush (v := 10) C dX12_ahead_305 (by decide +kernel) ?_
      refine g_aload_n (q := 0) C dX12_ahead_307 rfl rfl ?_
      refine g_getI C fX12_29 (by decide) dX12_ahead_308 kd_199 ?_
      refine g_imul C dX12_ahead_311 ?_
      refine g_aload_n (q := 0) C dX12_ahead_312 rfl rfl ?_
      refine g_getS (v := 200) C fX12_7 dX12_ahead_313 kd_199 rfl ?_
      refine g_iload_n (q := 1) C dX12_ahead_316 rfl rfl ?_
      obtain ⟨g5, h⟩ := h
      refine g_iald C dX12_ahead_317 kd_200 ln_200 g5 ?_
      refine g_iadd C dX12_ahead_318 ?_
      refine g_bipush (v := 48) C dX12_ahead_319 (by decide +kernel) ?_
      refine g_isub C dX12_ahead_321 ?_
      obtain ⟨M6, e_M6⟩ : ∃ z : Mem, z = up M 199 6 (((10 * (M 199 6)) + (M 200 v1)) - 48) := ⟨_, rfl⟩
      have h := h M6 e_M6
      refine g_putI C fX12_29 pX12_29 dX12_ahead_322 kd_199 e_M6 ?_
      refine G.sub [0, 1, 2, 3, 4, 5] rfl ?_
      exact w_X12_ahead_J325 C hR (hk204)  h
set_option maxRecDepth 20000 in
theorem w_X12_ahead_J263 {Y : YT} {X : CX} (C : Cx Y X cX12_ahead 6 RX12 2) {Q : Mem → Prop} (hR : Rt Y X none (PQv Y Q)) {v1 : Int} {v2 : Int} {v3 : Int} {v4 : Int} {v5 : Int} {k204 : Int → Int → Mem → Prop} (hk204 : ∀ (v1 : Int) (v5 : Int)  (M : Mem), k204 v1 v5 M → G Y X 6 204 [(0, vR Y 199), (1, vI v1), (2, vI v2), (3, vI v3), (4, vI v4), (5, vI v5)] ([]) M) {M : Mem}  (h : m_X12_ahead_J263 k204 Q v1 v2 v3 v4 v5 M) : G Y X 6 263 [(0, vR Y 199), (1, vI v1), (2, vI v2), (3, vI v3), (4, vI v4), (5, vI v5)] ([]) M := by
  unfold m_X12_ahead_J263 at h
  refine g_iload (q := 5) C dX12_ahead_263 rfl ?_
  refine g_iload (q := 4) C dX12_ahead_265 rfl ?_
  obtain ⟨g7, h⟩ := h
  obtain ⟨g8, h⟩ := h
  obtain ⟨ht, hf⟩ := h
  refine g_icmp_ge (tgt := 293) C dX12_ahead_267 (by decide) g7 g8 (fun c => ?_) (fun c => ?_)
  · have h := ht c
    refine G.sub [0, 1, 2, 3, 4, 5] rfl ?_
    exact w_X12_ahead_J293 C hR (hk204)  h
  · have h := hf c
    refine g_iload_n (q := 2) C dX12_ahead_270 rfl rfl ?_
    obtain ⟨g9, h⟩ := h
    obtain ⟨ht, hf⟩ := h
    refine g_if_eq (tgt := 293) C dX12_ahead_271 (by decide) g9 (fun c => ?_) (fun c => ?_)
    · have h := ht c
      refine G.sub [0, 1, 2, 3, 4, 5] rfl ?_
      exact w_X12_ahead_J293 C hR (hk204)  h
    · have h := hf c
      refine g_aload_n (q := 0) C dX12_ahead_274 rfl rfl ?_
      refine g_aload_n (q := 0) C dX12_ahead_275 rfl rfl ?_
      refine g_getJ C fX12_32 dX12_ahead_276 kd_199 ?_
      refine g_bipush (v := 8) C dX12_ahead_279 (by decide +kernel) ?_
      refine g_lshl C dX12_ahead_281 ?_
      refine g_aload_n (q := 0) C dX12_ahead_282 rfl rfl ?_
      refine g_getS (v := 200) C fX12_7 dX12_ahead_283 kd_199 rfl ?_
      refine g_iload_n (q := 1) C dX12_ahead_286 rfl rfl ?_
      obtain ⟨g10, h⟩ := h
      refine g_iald C dX12_ahead_287 kd_200 ln_200 g10 ?_
      obtain ⟨g11, h⟩ := h
      refine g_i2l C dX12_ahead_288 g11 ?_
      refine g_lor C dX12_ahead_289 ?_
      obtain ⟨M12, e_M12⟩ : ∃ z : Mem, z = up M 199 7 (wor (wshl (M 199 7) 8) (M 200 v1)) := ⟨_, rfl⟩
      have h := h M12 e_M12
      refine g_putJ C fX12_32 pX12_32 dX12_ahead_290 kd_199 e_M12 ?_
      refine G.sub [0, 1, 2, 3, 4, 5] rfl ?_
      exact w_X12_ahead_J293 C hR (hk204)  h
set_option maxRecDepth 20000 in
theorem w_X12_ahead_J243 {Y : YT} {X : CX} (C : Cx Y X cX12_ahead 6 RX12 2) {Q : Mem → Prop} (hR : Rt Y X none (PQv Y Q)) {v1 : Int} {v2 : Int} {v3 : Int} {v4 : Int} {v5 : Int} {k204 : Int → Int → Mem → Prop} (hk204 : ∀ (v1 : Int) (v5 : Int)  (M : Mem), k204 v1 v5 M → G Y X 6 204 [(0, vR Y 199), (1, vI v1), (2, vI v2), (3, vI v3), (4, vI v4), (5, vI v5)] ([]) M) {M : Mem}  (h : m_X12_ahead_J243 k204 Q v1 v2 v3 v4 v5 M) : G Y X 6 243 [(0, vR Y 199), (1, vI v1), (2, vI v2), (3, vI v3), (4, vI v4), (5, vI v5)] ([]) M := by
  unfold m_X12_ahead_J243 at h
  refine g_iload (q := 5) C dX12_ahead_243 rfl ?_
  refine g_iload (q := 4) C dX12_ahead_245 rfl ?_
  obtain ⟨g13, h⟩ := h
  obtain ⟨g14, h⟩ := h
  obtain ⟨ht, hf⟩ := h
  refine g_icmp_ne (tgt := 263) C dX12_ahead_247 (by decide) g13 g14 (fun c => ?_) (fun c => ?_)
  · have h := hf c
    refine G.sub [0, 1, 2, 3, 4, 5] rfl ?_
    exact w_X12_ahead_J263 C hR (hk204)  h
  · have h := ht c
    refine g_aload_n (q := 0) C dX12_ahead_250 rfl rfl ?_
    refine g_getI C fX12_48 (by decide) dX12_ahead_251 kd_199 ?_
    refine g_iconst C dX12_ahead_254 rfl ?_
    obtain ⟨g15, h⟩ := h
    obtain ⟨ht, hf⟩ := h
    refine g_icmp_ne (tgt := 263) C dX12_ahead_255 (by decide) g15 (by decide) (fun c => ?_) (fun c => ?_)
    · have h := hf c
      refine G.sub [0, 1, 2, 3, 4, 5] rfl ?_
      exact w_X12_ahead_J263 C hR (hk204)  h
    · have h := ht c
      refine g_aload_n (q := 0) C dX12_ahead_258 rfl rfl ?_
      refine g_iload_n (q := 1) C dX12_ahead_259 rfl rfl ?_
      obtain ⟨M16, e_M16⟩ : ∃ z : Mem, z = up M 199 12 v1 := ⟨_, rfl⟩
      have h := h M16 e_M16
      refine g_putI C fX12_48 pX12_48 dX12_ahead_260 kd_199 e_M16 ?_
      refine G.sub [0, 1, 2, 3, 4, 5] rfl ?_
      exact w_X12_ahead_J263 C hR (hk204)  h
set_option maxRecDepth 20000 in
theorem w_X12_ahead_L204 {Y : YT} {X : CX} (C : Cx Y X cX12_ahead 6 RX12 2) {Q : Mem → Prop} (hR : Rt Y X none (PQv Y Q)) {v2 : Int} {v3 : Int} {v4 : Int}  : ∀ (f : Nat) (v1 : Int) (v5 : Int) (M : Mem), m_X12_ahead_L204  Q v2 v3 v4 f v1 v5 M → G Y X 6 204 [(0, vR Y 199), (1, vI v1), (2, vI v2), (3, vI v3), (4, vI v4), (5, vI v5)] ([]) M := by
  intro f
  induction f with
  | zero =>
    intro v1 v5 M h
    exact (show False from h).elim
  | succ f ih =>
    intro v1 v5 M h
    unfold m_X12_ahead_L204 at h
    refine g_iload_n (q := 1) C dX12_ahead_204 rfl rfl ?_
    refine g_aload_n (q := 0) C dX12_ahead_205 rfl rfl ?_
    refine g_getI C fX12_17 (by decide) dX12_ahead_206 kd_199 ?_
    obtain ⟨g17, h⟩ := h
    obtain ⟨g18, h⟩ := h
    obtain ⟨ht, hf⟩ := h
    refine g_icmp_ge (tgt := 334) C dX12_ahead_209 (by decide) g17 g18 (fun c => ?_) (fun c => ?_)
    · have h := ht c
      refine G.sub [0, 1] rfl ?_
      exact w_X12_ahead_J334 C hR  h
    · have h := hf c
      refine g_iload_n (q := 2) C dX12_ahead_212 rfl rfl ?_
      obtain ⟨g19, h⟩ := h
      obtain ⟨ht, hf⟩ := h
      refine g_if_eq (tgt := 231) C dX12_ahead_213 (by decide) g19 (fun c => ?_) (fun c => ?_)
      · have h := ht c
        refine g_aload_n (q := 0) C dX12_ahead_231 rfl rfl ?_
        refine g_getS (v := 200) C fX12_7 dX12_ahead_232 kd_199 rfl ?_
        refine g_iload_n (q := 1) C dX12_ahead_235 rfl rfl ?_
        obtain ⟨g20, h⟩ := h
        refine g_iald C dX12_ahead_236 kd_200 ln_200 g20 ?_
        refine g_cSi (As := [vI (M 200 v1)]) C clX12_232 clsX12_isDigit dX12_ahead_237 rfl (Nat.le_of_ble_eq_true rfl) rfl (by decide) (t_X12_isDigit (Cx.ok C) h) (fun r22 M21 h => ?_)
        obtain ⟨g23, h⟩ := h
        obtain ⟨ht, hf⟩ := h
        refine g_if_eq (tgt := 334) C dX12_ahead_240 (by decide) g23 (fun c => ?_) (fun c => ?_)
        · have h := ht c
          refine G.sub [0, 1] rfl ?_
          exact w_X12_ahead_J334 C hR  h
        · have h := hf c
          refine G.sub [0, 1, 2, 3, 4, 5] rfl ?_
          exact w_X12_ahead_J243 C hR (ih)  h
      · have h := hf c
        refine g_aload_n (q := 0) C dX12_ahead_216 rfl rfl ?_
        refine g_getS (v := 200) C fX12_7 dX12_ahead_217 kd_199 rfl ?_
        refine g_iload_n (q := 1) C dX12_ahead_220 rfl rfl ?_
        obtain ⟨g24, h⟩ := h
        refine g_iald C dX12_ahead_221 kd_200 ln_200 g24 ?_
        refine g_cSi (As := [vI (M 200 v1)]) C clX12_228 clsX12_isLetter dX12_ahead_222 rfl (Nat.le_of_ble_eq_true rfl) rfl (by decide) (t_X12_isLetter (Cx.ok C) h) (fun r26 M25 h => ?_)
        obtain ⟨g27, h⟩ := h
        obtain ⟨ht, hf⟩ := h
        refine g_if_eq (tgt := 334) C dX12_ahead_225 (by decide) g27 (fun c => ?_) (fun c => ?_)
        · have h := ht c
          refine G.sub [0, 1] rfl ?_
          exact w_X12_ahead_J334 C hR  h
        · have h := hf c
          refine g_goto (tgt := 243) C dX12_ahead_228 (by decide) ?_
          refine G.sub [0, 1, 2, 3, 4, 5] rfl ?_
          exact w_X12_ahead_J243 C hR (ih)  h
set_option maxRecDepth 20000 in
theorem w_X12_ahead_J199 {Y : YT} {X : CX} (C : Cx Y X cX12_ahead 6 RX12 2) {Q : Mem → Prop} (hR : Rt Y X none (PQv Y Q)) {v1 : Int} {v2 : Int} {v3 : Int} {s0 : Int}  {M : Mem}  (h : m_X12_ahead_J199  Q v1 v2 v3 s0 M) : G Y X 6 199 [(0, vR Y 199), (1, vI v1), (2, vI v2), (3, vI v3)] ((vI s0) :: []) M := by
  unfold m_X12_ahead_J199 at h
  refine g_istore (lv' := [(4, vI s0), (0, vR Y 199), (1, vI v1), (2, vI v2), (3, vI v3)]) C dX12_ahead_199 (by decide) rfl ?_
  refine g_iconst C dX12_ahead_201 rfl ?_
  refine g_istore (lv' := [(5, vI 0), (4, vI s0), (0, vR Y 199), (1, vI v1), (2, vI v2), (3, vI v3)]) C dX12_ahead_202 (by decide) rfl ?_
  obtain ⟨f0, h⟩ := h
  refine G.sub [2, 3, 4, 5, 1, 0] rfl ?_
  exact w_X12_ahead_L204 C hR  f0 _ _ _ h
set_option maxRecDepth 20000 in
theorem w_X12_ahead_J186 {Y : YT} {X : CX} (C : Cx Y X cX12_ahead 6 RX12 2) {Q : Mem → Prop} (hR : Rt Y X none (PQv Y Q)) {v1 : Int} {v2 : Int} {v3 : Int} {s1 : Int}  {M : Mem}  (h : m_X12_ahead_J186  Q v1 v2 v3 s1 M) : G Y X 6 186 [(0, vR Y 199), (1, vI v1), (2, vI v2), (3, vI v3)] ((vI s1) :: (vR Y 199) :: []) M := by
  unfold m_X12_ahead_J186 at h
  obtain ⟨M28, e_M28⟩ : ∃ z : Mem, z = up M 199 3 s1 := ⟨_, rfl⟩
  have h := h M28 e_M28
  refine g_putI C fX12_20 pX12_20 dX12_ahead_186 kd_199 e_M28 ?_
  refine g_iload_n (q := 2) C dX12_ahead_189 rfl rfl ?_
  obtain ⟨g29, h⟩ := h
  obtain ⟨ht, hf⟩ := h
  refine g_if_eq (tgt := 198) C dX12_ahead_190 (by decide) g29 (fun c => ?_) (fun c => ?_)
  · have h := ht c
    refine g_iconst C dX12_ahead_198 rfl ?_
    refine G.sub [0, 1, 2, 3] rfl ?_
    exact w_X12_ahead_J199 C hR  h
  · have h := hf c
    refine g_bipush (v := 6) C dX12_ahead_193 (by decide +kernel) ?_
    refine g_goto (tgt := 199) C dX12_ahead_195 (by decide) ?_
    refine G.sub [0, 1, 2, 3] rfl ?_
    exact w_X12_ahead_J199 C hR  h
set_option maxRecDepth 20000 in
theorem w_X12_ahead_J176 {Y : YT} {X : CX} (C : Cx Y X cX12_ahead 6 RX12 2) {Q : Mem → Prop} (hR : Rt Y X none (PQv Y Q)) {v1 : Int} {v2 : Int} {v3 : Int}  {M : Mem}  (h : m_X12_ahead_J176  Q v1 v2 v3 M) : G Y X 6 176 [(0, vR Y 199), (1, vI v1), (2, vI v2), (3, vI v3)] ([]) M := by
  unfold m_X12_ahead_J176 at h
  refine g_aload_n (q := 0) C dX12_ahead_176 rfl rfl ?_
  refine g_iload_n (q := 2) C dX12_ahead_177 rfl rfl ?_
  obtain ⟨g30, h⟩ := h
  obtain ⟨ht, hf⟩ := h
  refine g_if_eq (tgt := 185) C dX12_ahead_178 (by decide) g30 (fun c => ?_) (fun c => ?_)
  · have h := ht c
    refine g_iconst C dX12_ahead_185 rfl ?_
    refine G.sub [0, 1, 2, 3] rfl ?_
    exact w_X12_ahead_J186 C hR  h
  · have h := hf c
    refine g_iconst C dX12_ahead_181 rfl ?_
    refine g_goto (tgt := 186) C dX12_ahead_182 (by decide) ?_
    refine G.sub [0, 1, 2, 3] rfl ?_
    exact w_X12_ahead_J186 C hR  h
set_option maxRecDepth 20000 in
theorem w_X12_ahead_J135 {Y : YT} {X : CX} (C : Cx Y X cX12_ahead 6 RX12 2) {Q : Mem → Prop} (hR : Rt Y X none (PQv Y Q)) {v1 : Int} {v2 : Int} {v3 : Int}  {M : Mem}  (h : m_X12_ahead_J135  Q v1 v2 v3 M) : G Y X 6 135 [(0, vR Y 199), (1, vI v1), (2, vI v2), (3, vI v3)] ([]) M := by
  unfold m_X12_ahead_J135 at h
  refine g_aload_n (q := 0) C dX12_ahead_135 rfl rfl ?_
  refine g_iconst C dX12_ahead_136 rfl ?_
  obtain ⟨M31, e_M31⟩ : ∃ z : Mem, z = up M 199 6 0 := ⟨_, rfl⟩
  have h := h M31 e_M31
  refine g_putI C fX12_29 pX12_29 dX12_ahead_137 kd_199 e_M31 ?_
  refine g_aload_n (q := 0) C dX12_ahead_140 rfl rfl ?_
  refine g_lconst (v := 0) C dX12_ahead_141 (by decide +kernel) ?_
  obtain ⟨M32, e_M32⟩ : ∃ z : Mem, z = up M31 199 7 0 := ⟨_, rfl⟩
  have h := h M32 e_M32
  refine g_putJ C fX12_32 pX12_32 dX12_ahead_142 kd_199 e_M32 ?_
  refine g_aload_n (q := 0) C dX12_ahead_145 rfl rfl ?_
  refine g_iconst C dX12_ahead_146 rfl ?_
  obtain ⟨M33, e_M33⟩ : ∃ z : Mem, z = up M32 199 3 3 := ⟨_, rfl⟩
  have h := h M33 e_M33
  refine g_putI C fX12_20 pX12_20 dX12_ahead_147 kd_199 e_M33 ?_
  refine g_aload_n (q := 0) C dX12_ahead_150 rfl rfl ?_
  refine g_iload_n (q := 1) C dX12_ahead_151 rfl rfl ?_
  refine g_iconst C dX12_ahead_152 rfl ?_
  refine g_iadd C dX12_ahead_153 ?_
  obtain ⟨M34, e_M34⟩ : ∃ z : Mem, z = up M33 199 5 (v1 + 1) := ⟨_, rfl⟩
  have h := h M34 e_M34
  refine g_putI C fX12_26 pX12_26 dX12_ahead_154 kd_199 e_M34 ?_
  refine g_iload_n (q := 2) C dX12_ahead_157 rfl rfl ?_
  obtain ⟨g35, h⟩ := h
  obtain ⟨ht, hf⟩ := h
  refine g_if_ne (tgt := 176) C dX12_ahead_158 (by decide) g35 (fun c => ?_) (fun c => ?_)
  · have h := hf c
    refine G.sub [0, 1, 2, 3] rfl ?_
    exact w_X12_ahead_J176 C hR  h
  · have h := ht c
    refine g_iload_n (q := 3) C dX12_ahead_161 rfl rfl ?_
    obtain ⟨g36, h⟩ := h
    obtain ⟨ht, hf⟩ := h
    refine g_if_ne (tgt := 176) C dX12_ahead_162 (by decide) g36 (fun c => ?_) (fun c => ?_)
    · have h := hf c
      refine G.sub [0, 1, 2, 3] rfl ?_
      exact w_X12_ahead_J176 C hR  h
    · have h := ht c
      refine g_aload_n (q := 0) C dX12_ahead_165 rfl rfl ?_
      refine g_aload_n (q := 0) C dX12_ahead_166 rfl rfl ?_
      refine g_getS (v := 200) C fX12_7 dX12_ahead_167 kd_199 rfl ?_
      refine g_iload_n (q := 1) C dX12_ahead_170 rfl rfl ?_
      obtain ⟨g37, h⟩ := h
      refine g_iald C dX12_ahead_171 kd_200 ln_200 g37 ?_
      obtain ⟨M38, e_M38⟩ : ∃ z : Mem, z = up M34 199 6 (M34 200 v1) := ⟨_, rfl⟩
      have h := h M38 e_M38
      refine g_putI C fX12_29 pX12_29 dX12_ahead_172 kd_199 e_M38 ?_
      exact g_retv C hR dX12_ahead_175 h
set_option maxRecDepth 20000 in
theorem w_X12_ahead_J130 {Y : YT} {X : CX} (C : Cx Y X cX12_ahead 6 RX12 2) {Q : Mem → Prop} (hR : Rt Y X none (PQv Y Q)) {v1 : Int} {v2 : Int} {v3 : Int}  {M : Mem}  (h : m_X12_ahead_J130  Q v1 v2 v3 M) : G Y X 6 130 [(0, vR Y 199), (1, vI v1), (2, vI v2), (3, vI v3)] ([]) M := by
  unfold m_X12_ahead_J130 at h
  refine g_aload_n (q := 0) C dX12_ahead_130 rfl rfl ?_
  refine g_iload_n (q := 1) C dX12_ahead_131 rfl rfl ?_
  obtain ⟨M39, e_M39⟩ : ∃ z : Mem, z = up M 199 12 v1 := ⟨_, rfl⟩
  have h := h M39 e_M39
  refine g_putI C fX12_48 pX12_48 dX12_ahead_132 kd_199 e_M39 ?_
  refine G.sub [0, 1, 2, 3] rfl ?_
  exact w_X12_ahead_J135 C hR  h
set_option maxRecDepth 20000 in
theorem w_X12_ahead_J98 {Y : YT} {X : CX} (C : Cx Y X cX12_ahead 6 RX12 2) {Q : Mem → Prop} (hR : Rt Y X none (PQv Y Q)) {v1 : Int} {v2 : Int} {v3 : Int}  {M : Mem}  (h : m_X12_ahead_J98  Q v1 v2 v3 M) : G Y X 6 98 [(0, vR Y 199), (1, vI v1), (2, vI v2), (3, vI v3)] ([]) M := by
  unfold m_X12_ahead_J98 at h
  refine g_iload_n (q := 1) C dX12_ahead_98 rfl rfl ?_
  obtain ⟨g40, h⟩ := h
  obtain ⟨ht, hf⟩ := h
  refine g_if_le (tgt := 135) C dX12_ahead_99 (by decide) g40 (fun c => ?_) (fun c => ?_)
  · have h := ht c
    refine G.sub [0, 1, 2, 3] rfl ?_
    exact w_X12_ahead_J135 C hR  h
  · have h := hf c
    refine g_aload_n (q := 0) C dX12_ahead_102 rfl rfl ?_
    refine g_getS (v := 200) C fX12_7 dX12_ahead_103 kd_199 rfl ?_
    refine g_iload_n (q := 1) C dX12_ahead_106 rfl rfl ?_
    refine g_iconst C dX12_ahead_107 rfl ?_
    refine g_isub C dX12_ahead_108 ?_
    obtain ⟨g41, h⟩ := h
    refine g_iald C dX12_ahead_109 kd_200 ln_200 g41 ?_
    refine g_cSi (As := [vI (M 200 (v1 - 1))]) C clX12_228 clsX12_isLetter dX12_ahead_110 rfl (Nat.le_of_ble_eq_true rfl) rfl (by decide) (t_X12_isLetter (Cx.ok C) h) (fun r43 M42 h => ?_)
    obtain ⟨g44, h⟩ := h
    obtain ⟨ht, hf⟩ := h
    refine g_if_ne (tgt := 130) C dX12_ahead_113 (by decide) g44 (fun c => ?_) (fun c => ?_)
    · have h := hf c
      refine G.sub [0, 1, 2, 3] rfl ?_
      exact w_X12_ahead_J130 C hR  h
    · have h := ht c
      refine g_aload_n (q := 0) C dX12_ahead_116 rfl rfl ?_
      refine g_getS (v := 200) C fX12_7 dX12_ahead_117 kd_199 rfl ?_
      refine g_iload_n (q := 1) C dX12_ahead_120 rfl rfl ?_
      refine g_iconst C dX12_ahead_121 rfl ?_
      refine g_isub C dX12_ahead_122 ?_
      obtain ⟨g45, h⟩ := h
      refine g_iald C dX12_ahead_123 kd_200 ln_200 g45 ?_
      refine g_cSi (As := [vI (M42 200 (v1 - 1))]) C clX12_232 clsX12_isDigit dX12_ahead_124 rfl (Nat.le_of_ble_eq_true rfl) rfl (by decide) (t_X12_isDigit (Cx.ok C) h) (fun r47 M46 h => ?_)
      obtain ⟨g48, h⟩ := h
      obtain ⟨ht, hf⟩ := h
      refine g_if_eq (tgt := 135) C dX12_ahead_127 (by decide) g48 (fun c => ?_) (fun c => ?_)
      · have h := ht c
        refine G.sub [0, 1, 2, 3] rfl ?_
        exact w_X12_ahead_J135 C hR  h
      · have h := hf c
        refine G.sub [0, 1, 2, 3] rfl ?_
        exact w_X12_ahead_J130 C hR  h
set_option maxRecDepth 20000 in
theorem w_X12_ahead_J41 {Y : YT} {X : CX} (C : Cx Y X cX12_ahead 6 RX12 2) {Q : Mem → Prop} (hR : Rt Y X none (PQv Y Q)) {v1 : Int}  {M : Mem}  (h : m_X12_ahead_J41  Q v1 M) : G Y X 6 41 [(0, vR Y 199), (1, vI v1)] ([]) M := by
  unfold m_X12_ahead_J41 at h
  refine g_aload_n (q := 0) C dX12_ahead_41 rfl rfl ?_
  refine g_iload_n (q := 1) C dX12_ahead_42 rfl rfl ?_
  obtain ⟨M49, e_M49⟩ : ∃ z : Mem, z = up M 199 4 v1 := ⟨_, rfl⟩
  have h := h M49 e_M49
  refine g_putI C fX12_23 pX12_23 dX12_ahead_43 kd_199 e_M49 ?_
  refine g_aload_n (q := 0) C dX12_ahead_46 rfl rfl ?_
  refine g_iload_n (q := 1) C dX12_ahead_47 rfl rfl ?_
  obtain ⟨M50, e_M50⟩ : ∃ z : Mem, z = up M49 199 5 v1 := ⟨_, rfl⟩
  have h := h M50 e_M50
  refine g_putI C fX12_26 pX12_26 dX12_ahead_48 kd_199 e_M50 ?_
  refine g_aload_n (q := 0) C dX12_ahead_51 rfl rfl ?_
  refine g_iconst C dX12_ahead_52 rfl ?_
  obtain ⟨M51, e_M51⟩ : ∃ z : Mem, z = up M50 199 3 0 := ⟨_, rfl⟩
  have h := h M51 e_M51
  refine g_putI C fX12_20 pX12_20 dX12_ahead_53 kd_199 e_M51 ?_
  refine g_aload_n (q := 0) C dX12_ahead_56 rfl rfl ?_
  refine g_iconst C dX12_ahead_57 rfl ?_
  obtain ⟨M52, e_M52⟩ : ∃ z : Mem, z = up M51 199 12 (-1) := ⟨_, rfl⟩
  have h := h M52 e_M52
  refine g_putI C fX12_48 pX12_48 dX12_ahead_58 kd_199 e_M52 ?_
  refine g_iload_n (q := 1) C dX12_ahead_61 rfl rfl ?_
  refine g_aload_n (q := 0) C dX12_ahead_62 rfl rfl ?_
  refine g_getI C fX12_17 (by decide) dX12_ahead_63 kd_199 ?_
  obtain ⟨g53, h⟩ := h
  obtain ⟨g54, h⟩ := h
  obtain ⟨ht, hf⟩ := h
  refine g_icmp_lt (tgt := 70) C dX12_ahead_66 (by decide) g53 g54 (fun c => ?_) (fun c => ?_)
  · have h := ht c
    refine g_aload_n (q := 0) C dX12_ahead_70 rfl rfl ?_
    refine g_getS (v := 200) C fX12_7 dX12_ahead_71 kd_199 rfl ?_
    refine g_iload_n (q := 1) C dX12_ahead_74 rfl rfl ?_
    obtain ⟨g55, h⟩ := h
    refine g_iald C dX12_ahead_75 kd_200 ln_200 g55 ?_
    refine g_cSi (As := [vI (M52 200 v1)]) C clX12_228 clsX12_isLetter dX12_ahead_76 rfl (Nat.le_of_ble_eq_true rfl) rfl (by decide) (t_X12_isLetter (Cx.ok C) h) (fun r57 M56 h => ?_)
    refine g_istore_n (lv' := [(2, vI r57), (0, vR Y 199), (1, vI v1)]) C dX12_ahead_79 rfl (by decide) rfl ?_
    refine g_aload_n (q := 1) C dX12_ahead_80 rfl rfl ?_
    refine g_getS (v := 200) C fX12_7 dX12_ahead_81 kd_199 rfl ?_
    refine g_iload_n (q := 2) C dX12_ahead_84 rfl rfl ?_
    obtain ⟨g58, h⟩ := h
    refine g_iald C dX12_ahead_85 kd_200 ln_200 g58 ?_
    refine g_cSi (As := [vI (M56 200 v1)]) C clX12_232 clsX12_isDigit dX12_ahead_86 rfl (Nat.le_of_ble_eq_true rfl) rfl (by decide) (t_X12_isDigit (Cx.ok C) h) (fun r60 M59 h => ?_)
    refine g_istore_n (lv' := [(3, vI r60), (2, vI r57), (0, vR Y 199), (1, vI v1)]) C dX12_ahead_89 rfl (by decide) rfl ?_
    refine g_iload_n (q := 1) C dX12_ahead_90 rfl rfl ?_
    obtain ⟨g61, h⟩ := h
    obtain ⟨ht, hf⟩ := h
    refine g_if_ne (tgt := 98) C dX12_ahead_91 (by decide) g61 (fun c => ?_) (fun c => ?_)
    · have h := hf c
      refine G.sub [2, 3, 1, 0] rfl ?_
      exact w_X12_ahead_J98 C hR  h
    · have h := ht c
      refine g_iload_n (q := 0) C dX12_ahead_94 rfl rfl ?_
      obtain ⟨g62, h⟩ := h
      obtain ⟨ht, hf⟩ := h
      refine g_if_eq (tgt := 135) C dX12_ahead_95 (by decide) g62 (fun c => ?_) (fun c => ?_)
      · have h := ht c
        refine G.sub [2, 3, 1, 0] rfl ?_
        exact w_X12_ahead_J135 C hR  h
      · have h := hf c
        refine G.sub [2, 3, 1, 0] rfl ?_
        exact w_X12_ahead_J98 C hR  h
  · have h := hf c
    exact g_retv C hR dX12_ahead_69 h
set_option maxRecDepth 20000 in
theorem w_X12_ahead_J35 {Y : YT} {X : CX} (C : Cx Y X cX12_ahead 6 RX12 2) {Q : Mem → Prop} (hR : Rt Y X none (PQv Y Q)) {v1 : Int} {k5 : Int → Mem → Prop} (hk5 : ∀ (v1 : Int)  (M : Mem), k5 v1 M → G Y X 6 5 [(0, vR Y 199), (1, vI v1)] ([]) M) {M : Mem}  (h : m_X12_ahead_J35 k5 Q v1 M) : G Y X 6 35 [(0, vR Y 199), (1, vI v1)] ([]) M := by
  unfold m_X12_ahead_J35 at h
  refine g_iinc (q := 1) (v := v1 + 1) (lv' := [(1, vI (v1 + 1)), (0, vR Y 199)]) C dX12_ahead_35 rfl rfl (by decide) rfl ?_
  refine g_goto (tgt := 5) C dX12_ahead_38 (by decide) ?_
  refine G.sub [1, 0] rfl ?_
  exact hk5 _ _ h
set_option maxRecDepth 20000 in
theorem w_X12_ahead_L5 {Y : YT} {X : CX} (C : Cx Y X cX12_ahead 6 RX12 2) {Q : Mem → Prop} (hR : Rt Y X none (PQv Y Q))   : ∀ (f : Nat) (v1 : Int) (M : Mem), m_X12_ahead_L5  Q f v1 M → G Y X 6 5 [(0, vR Y 199), (1, vI v1)] ([]) M := by
  intro f
  induction f with
  | zero =>
    intro v1 M h
    exact (show False from h).elim
  | succ f ih =>
    intro v1 M h
    unfold m_X12_ahead_L5 at h
    refine g_iload_n (q := 1) C dX12_ahead_5 rfl rfl ?_
    refine g_aload_n (q := 0) C dX12_ahead_6 rfl rfl ?_
    refine g_getI C fX12_17 (by decide) dX12_ahead_7 kd_199 ?_
    obtain ⟨g63, h⟩ := h
    obtain ⟨g64, h⟩ := h
    obtain ⟨ht, hf⟩ := h
    refine g_icmp_ge (tgt := 41) C dX12_ahead_10 (by decide) g63 g64 (fun c => ?_) (fun c => ?_)
    · have h := ht c
      refine G.sub [0, 1] rfl ?_
      exact w_X12_ahead_J41 C hR  h
    · have h := hf c
      refine g_aload_n (q := 0) C dX12_ahead_13 rfl rfl ?_
      refine g_getS (v := 200) C fX12_7 dX12_ahead_14 kd_199 rfl ?_
      refine g_iload_n (q := 1) C dX12_ahead_17 rfl rfl ?_
      obtain ⟨g65, h⟩ := h
      refine g_iald C dX12_ahead_18 kd_200 ln_200 g65 ?_
      refine g_bipush (v := 32) C dX12_ahead_19 (by decide +kernel) ?_
      obtain ⟨g66, h⟩ := h
      obtain ⟨ht, hf⟩ := h
      refine g_icmp_eq (tgt := 35) C dX12_ahead_21 (by decide) g66 (by decide) (fun c => ?_) (fun c => ?_)
      · have h := ht c
        refine G.sub [0, 1] rfl ?_
        exact w_X12_ahead_J35 C hR (ih)  h
      · have h := hf c
        refine g_aload_n (q := 0) C dX12_ahead_24 rfl rfl ?_
        refine g_getS (v := 200) C fX12_7 dX12_ahead_25 kd_199 rfl ?_
        refine g_iload_n (q := 1) C dX12_ahead_28 rfl rfl ?_
        obtain ⟨g67, h⟩ := h
        refine g_iald C dX12_ahead_29 kd_200 ln_200 g67 ?_
        refine g_bipush (v := 10) C dX12_ahead_30 (by decide +kernel) ?_
        obtain ⟨g68, h⟩ := h
        obtain ⟨ht, hf⟩ := h
        refine g_icmp_ne (tgt := 41) C dX12_ahead_32 (by decide) g68 (by decide) (fun c => ?_) (fun c => ?_)
        · have h := hf c
          refine G.sub [0, 1] rfl ?_
          exact w_X12_ahead_J41 C hR  h
        · have h := ht c
          refine G.sub [0, 1] rfl ?_
          exact w_X12_ahead_J35 C hR (ih)  h
set_option maxRecDepth 20000 in
theorem t_X12_ahead {l : Launch} {Y : YT} (hY : YOK Y) {M : Mem} {Q : Mem → Prop} (h : m_X12_ahead  M Q) : Ctr l Y yX12_ahead cX12_ahead 6 none 2 [vR Y 199] M (PQv Y Q) := by
  unfold m_X12_ahead at h
  refine ctr_ofF hY (by decide +kernel) (Nat.le_of_ble_eq_true rfl) [(0, vR Y 199)] rfl (fun X hX C hR => ?_)
  refine g_aload_n (q := 0) C dX12_ahead_0 rfl rfl ?_
  refine g_getI C fX12_26 (by decide) dX12_ahead_1 kd_199 ?_
  refine g_istore_n (lv' := [(1, vI (M 199 5)), (0, vR Y 199)]) C dX12_ahead_4 rfl (by decide) rfl ?_
  obtain ⟨f0, h⟩ := h
  refine G.sub [1, 0] rfl ?_
  exact w_X12_ahead_L5 C hR  f0 _ _ h
set_option maxRecDepth 20000 in
theorem w_X12_isSign_J21 {Y : YT} {X : CX} (C : Cx Y X cX12_isSign 2 RX12 1) {Q : Int → Mem → Prop} (hR : Rt Y X (some .boolean) (PQi Y Q)) {s0 : Int}  {M : Mem}  (h : m_X12_isSign_J21  Q s0 M) : G Y X 2 21 [] ((vI s0) :: []) M := by
  unfold m_X12_isSign_J21 at h
  obtain ⟨g1, h⟩ := h
  exact g_retz C hR dX12_isSign_21 g1 h
set_option maxRecDepth 20000 in
theorem w_X12_isSign_J20 {Y : YT} {X : CX} (C : Cx Y X cX12_isSign 2 RX12 1) {Q : Int → Mem → Prop} (hR : Rt Y X (some .boolean) (PQi Y Q))   {M : Mem}  (h : m_X12_isSign_J20  Q  M) : G Y X 2 20 [] ([]) M := by
  unfold m_X12_isSign_J20 at h
  refine g_iconst C dX12_isSign_20 rfl ?_
  refine G.sub [] rfl ?_
  exact w_X12_isSign_J21 C hR  h
set_option maxRecDepth 20000 in
theorem t_X12_isSign {l : Launch} {Y : YT} (hY : YOK Y) {a0 : Int} {M : Mem} {Q : Int → Mem → Prop} (h : m_X12_isSign a0 M Q) : Ctr l Y yX12_isSign cX12_isSign 2 (some .boolean) 1 [vR Y 199, vI a0] M (PQi Y Q) := by
  unfold m_X12_isSign at h
  refine ctr_ofF hY (by decide +kernel) (Nat.le_of_ble_eq_true rfl) [(0, vR Y 199), (1, vI a0)] rfl (fun X hX C hR => ?_)
  refine g_aload_n (q := 0) C dX12_isSign_0 rfl rfl ?_
  refine g_getI C fX12_20 (by decide) dX12_isSign_1 kd_199 ?_
  refine g_iconst C dX12_isSign_4 rfl ?_
  obtain ⟨g2, h⟩ := h
  obtain ⟨ht, hf⟩ := h
  refine g_icmp_ne (tgt := 20) C dX12_isSign_5 (by decide) g2 (by decide) (fun c => ?_) (fun c => ?_)
  · have h := hf c
    refine G.sub [] rfl ?_
    exact w_X12_isSign_J20 C hR  h
  · have h := ht c
    refine g_aload_n (q := 0) C dX12_isSign_8 rfl rfl ?_
    refine g_getI C fX12_29 (by decide) dX12_isSign_9 kd_199 ?_
    refine g_iload_n (q := 1) C dX12_isSign_12 rfl rfl ?_
    obtain ⟨g3, h⟩ := h
    obtain ⟨g4, h⟩ := h
    obtain ⟨ht, hf⟩ := h
    refine g_icmp_ne (tgt := 20) C dX12_isSign_13 (by decide) g3 g4 (fun c => ?_) (fun c => ?_)
    · have h := hf c
      refine G.sub [] rfl ?_
      exact w_X12_isSign_J20 C hR  h
    · have h := ht c
      refine g_iconst C dX12_isSign_16 rfl ?_
      refine g_goto (tgt := 21) C dX12_isSign_17 (by decide) ?_
      refine G.sub [] rfl ?_
      exact w_X12_isSign_J21 C hR  h
set_option maxRecDepth 20000 in
theorem w_X12_isWord_J22 {Y : YT} {X : CX} (C : Cx Y X cX12_isWord 3 RX12 1) {Q : Int → Mem → Prop} (hR : Rt Y X (some .boolean) (PQi Y Q)) {s0 : Int}  {M : Mem}  (h : m_X12_isWord_J22  Q s0 M) : G Y X 3 22 [] ((vI s0) :: []) M := by
  unfold m_X12_isWord_J22 at h
  obtain ⟨g1, h⟩ := h
  exact g_retz C hR dX12_isWord_22 g1 h
set_option maxRecDepth 20000 in
theorem w_X12_isWord_J21 {Y : YT} {X : CX} (C : Cx Y X cX12_isWord 3 RX12 1) {Q : Int → Mem → Prop} (hR : Rt Y X (some .boolean) (PQi Y Q))   {M : Mem}  (h : m_X12_isWord_J21  Q  M) : G Y X 3 21 [] ([]) M := by
  unfold m_X12_isWord_J21 at h
  refine g_iconst C dX12_isWord_21 rfl ?_
  refine G.sub [] rfl ?_
  exact w_X12_isWord_J22 C hR  h
set_option maxRecDepth 20000 in
theorem t_X12_isWord {l : Launch} {Y : YT} (hY : YOK Y) {a0 : Int} {M : Mem} {Q : Int → Mem → Prop} (h : m_X12_isWord a0 M Q) : Ctr l Y yX12_isWord cX12_isWord 3 (some .boolean) 1 [vR Y 199, vL a0] M (PQi Y Q) := by
  unfold m_X12_isWord at h
  refine ctr_ofF hY (by decide +kernel) (Nat.le_of_ble_eq_true rfl) [(0, vR Y 199), (1, vL a0)] rfl (fun X hX C hR => ?_)
  refine g_aload_n (q := 0) C dX12_isWord_0 rfl rfl ?_
  refine g_getI C fX12_20 (by decide) dX12_isWord_1 kd_199 ?_
  refine g_iconst C dX12_isWord_4 rfl ?_
  obtain ⟨g2, h⟩ := h
  obtain ⟨ht, hf⟩ := h
  refine g_icmp_ne (tgt := 21) C dX12_isWord_5 (by decide) g2 (by decide) (fun c => ?_) (fun c => ?_)
  · have h := hf c
    refine G.sub [] rfl ?_
    exact w_X12_isWord_J21 C hR  h
  · have h := ht c
    refine g_aload_n (q := 0) C dX12_isWord_8 rfl rfl ?_
    refine g_getJ C fX12_32 dX12_isWord_9 kd_199 ?_
    refine g_lload_n (q := 1) C dX12_isWord_12 rfl rfl ?_
    obtain ⟨g3, h⟩ := h
    obtain ⟨g4, h⟩ := h
    obtain ⟨ht, hf⟩ := h
    refine g_lcmp_ne (tgt := 21) C dX12_isWord_13 dX12_isWord_14 (by decide) g3 g4 (fun c => ?_) (fun c => ?_)
    · have h := hf c
      refine G.sub [] rfl ?_
      exact w_X12_isWord_J21 C hR  h
    · have h := ht c
      refine g_iconst C dX12_isWord_17 rfl ?_
      refine g_goto (tgt := 22) C dX12_isWord_18 (by decide) ?_
      refine G.sub [] rfl ?_
      exact w_X12_isWord_J22 C hR  h
set_option maxRecDepth 20000 in
theorem w_X12_must_J32 {Y : YT} {X : CX} (C : Cx Y X cX12_must 2 RX12 3) {Q : Mem → Prop} (hR : Rt Y X none (PQv Y Q))   {M : Mem}  (h : m_X12_must_J32  Q  M) : G Y X 2 32 [] ([]) M := by
  unfold m_X12_must_J32 at h
  exact g_retv C hR dX12_must_32 h
set_option maxRecDepth 20000 in
theorem w_X12_must_J21 {Y : YT} {X : CX} (C : Cx Y X cX12_must 2 RX12 3) {Q : Mem → Prop} (hR : Rt Y X none (PQv Y Q))   {M : Mem}  (h : m_X12_must_J21  Q  M) : G Y X 2 21 [(0, vR Y 199)] ([]) M := by
  unfold m_X12_must_J21 at h
  refine g_aload_n (q := 0) C dX12_must_21 rfl rfl ?_
  refine g_getI C fX12_36 (by decide) dX12_must_22 kd_199 ?_
  obtain ⟨g1, h⟩ := h
  obtain ⟨ht, hf⟩ := h
  refine g_if_ne (tgt := 32) C dX12_must_25 (by decide) g1 (fun c => ?_) (fun c => ?_)
  · have h := hf c
    refine G.sub [] rfl ?_
    exact w_X12_must_J32 C hR  h
  · have h := ht c
    refine g_aload_n (q := 0) C dX12_must_28 rfl rfl ?_
    refine g_cVv (As := []) C clX12_241 clvX12_ahead dX12_must_29 kd_199 rfl (Nat.le_of_ble_eq_true rfl) rfl (by decide) (t_X12_ahead (Cx.ok C) h) (fun M2 h => ?_)
    refine G.sub [] rfl ?_
    exact w_X12_must_J32 C hR  h
set_option maxRecDepth 20000 in
theorem t_X12_must {l : Launch} {Y : YT} (hY : YOK Y) {a0 : Int} {M : Mem} {Q : Mem → Prop} (h : m_X12_must a0 M Q) : Ctr l Y yX12_must cX12_must 2 none 3 [vR Y 199, vI a0] M (PQv Y Q) := by
  unfold m_X12_must at h
  refine ctr_ofF hY (by decide +kernel) (Nat.le_of_ble_eq_true rfl) [(0, vR Y 199), (1, vI a0)] rfl (fun X hX C hR => ?_)
  refine g_aload_n (q := 0) C dX12_must_0 rfl rfl ?_
  refine g_cVv (As := []) C clX12_235 clvX12_lex dX12_must_1 kd_199 rfl (Nat.le_of_ble_eq_true rfl) rfl (by decide) (t_X12_lex (Cx.ok C) h) (fun M3 h => ?_)
  refine g_aload_n (q := 0) C dX12_must_4 rfl rfl ?_
  refine g_iload_n (q := 1) C dX12_must_5 rfl rfl ?_
  refine g_cVi (As := [vI a0]) C clX12_238 clvX12_isSign dX12_must_6 kd_199 rfl (Nat.le_of_ble_eq_true rfl) rfl (by decide) (t_X12_isSign (Cx.ok C) h) (fun r5 M4 h => ?_)
  obtain ⟨g6, h⟩ := h
  obtain ⟨ht, hf⟩ := h
  refine g_if_ne (tgt := 21) C dX12_must_9 (by decide) g6 (fun c => ?_) (fun c => ?_)
  · have h := hf c
    refine G.sub [0] rfl ?_
    exact w_X12_must_J21 C hR  h
  · have h := ht c
    refine g_aload_n (q := 0) C dX12_must_12 rfl rfl ?_
    refine g_iconst C dX12_must_13 rfl ?_
    refine g_aload_n (q := 0) C dX12_must_14 rfl rfl ?_
    refine g_getI C fX12_23 (by decide) dX12_must_15 kd_199 ?_
    refine g_cVv (As := [vI 1, vI (M4 199 4)]) C clX12_224 clvX12_blame dX12_must_18 kd_199 rfl (Nat.le_of_ble_eq_true rfl) rfl (by decide) (t_X12_blame (Cx.ok C) h) (fun M7 h => ?_)
    refine G.sub [0] rfl ?_
    exact w_X12_must_J21 C hR  h
set_option maxRecDepth 20000 in
theorem w_X12_isOwn_J200 {Y : YT} {X : CX} (C : Cx Y X cX12_isOwn 3 RX12 1) {Q : Int → Mem → Prop} (hR : Rt Y X (some .boolean) (PQi Y Q))   {M : Mem}  (h : m_X12_isOwn_J200  Q  M) : G Y X 3 200 [] ([]) M := by
  unfold m_X12_isOwn_J200 at h
  refine g_iconst C dX12_isOwn_200 rfl ?_
  exact g_retz C hR dX12_isOwn_201 (by decide) h
set_option maxRecDepth 20000 in
theorem w_X12_isOwn_J166 {Y : YT} {X : CX} (C : Cx Y X cX12_isOwn 3 RX12 1) {Q : Int → Mem → Prop} (hR : Rt Y X (some .boolean) (PQi Y Q))   {M : Mem}  (h : m_X12_isOwn_J166  Q  M) : G Y X 3 166 [] ([]) M := by
  unfold m_X12_isOwn_J166 at h
  refine g_iconst C dX12_isOwn_166 rfl ?_
  exact g_retz C hR dX12_isOwn_167 (by decide) h
set_option maxRecDepth 20000 in
theorem w_X12_isOwn_J124 {Y : YT} {X : CX} (C : Cx Y X cX12_isOwn 3 RX12 1) {Q : Int → Mem → Prop} (hR : Rt Y X (some .boolean) (PQi Y Q))   {M : Mem}  (h : m_X12_isOwn_J124  Q  M) : G Y X 3 124 [] ([]) M := by
  unfold m_X12_isOwn_J124 at h
  refine g_iconst C dX12_isOwn_124 rfl ?_
  exact g_retz C hR dX12_isOwn_125 (by decide) h
set_option maxRecDepth 20000 in
theorem w_X12_isOwn_J82 {Y : YT} {X : CX} (C : Cx Y X cX12_isOwn 3 RX12 1) {Q : Int → Mem → Prop} (hR : Rt Y X (some .boolean) (PQi Y Q))   {M : Mem}  (h : m_X12_isOwn_J82  Q  M) : G Y X 3 82 [] ([]) M := by
  unfold m_X12_isOwn_J82 at h
  refine g_iconst C dX12_isOwn_82 rfl ?_
  exact g_retz C hR dX12_isOwn_83 (by decide) h
set_option maxRecDepth 20000 in
theorem w_X12_isOwn_J40 {Y : YT} {X : CX} (C : Cx Y X cX12_isOwn 3 RX12 1) {Q : Int → Mem → Prop} (hR : Rt Y X (some .boolean) (PQi Y Q))   {M : Mem}  (h : m_X12_isOwn_J40  Q  M) : G Y X 3 40 [] ([]) M := by
  unfold m_X12_isOwn_J40 at h
  refine g_iconst C dX12_isOwn_40 rfl ?_
  exact g_retz C hR dX12_isOwn_41 (by decide) h
set_option maxRecDepth 20000 in
theorem t_X12_isOwn {l : Launch} {Y : YT} (hY : YOK Y) {a0 : Int} {M : Mem} {Q : Int → Mem → Prop} (h : m_X12_isOwn a0 M Q) : Ctr l Y yX12_isOwn cX12_isOwn 3 (some .boolean) 1 [vR Y 199, vL a0] M (PQi Y Q) := by
  unfold m_X12_isOwn at h
  refine ctr_ofF hY (by decide +kernel) (Nat.le_of_ble_eq_true rfl) [(0, vR Y 199), (1, vL a0)] rfl (fun X hX C hR => ?_)
  refine g_lload_n (q := 1) C dX12_isOwn_0 rfl rfl ?_
  refine g_ldc2 (v := 482854658917) C dX12_isOwn_1 kX12_244 (by decide +kernel) ?_
  obtain ⟨g1, h⟩ := h
  obtain ⟨ht, hf⟩ := h
  refine g_lcmp_eq (tgt := 40) C dX12_isOwn_4 dX12_isOwn_5 (by decide) g1 (by decide) (fun c => ?_) (fun c => ?_)
  · have h := ht c
    refine G.sub [] rfl ?_
    exact w_X12_isOwn_J40 C hR  h
  · have h := hf c
    refine g_lload_n (q := 1) C dX12_isOwn_8 rfl rfl ?_
    refine g_ldc2 (v := 1919902052) C dX12_isOwn_9 kX12_246 (by decide +kernel) ?_
    obtain ⟨g2, h⟩ := h
    obtain ⟨ht, hf⟩ := h
    refine g_lcmp_eq (tgt := 40) C dX12_isOwn_12 dX12_isOwn_13 (by decide) g2 (by decide) (fun c => ?_) (fun c => ?_)
    · have h := ht c
      refine G.sub [] rfl ?_
      exact w_X12_isOwn_J40 C hR  h
    · have h := hf c
      refine g_lload_n (q := 1) C dX12_isOwn_16 rfl rfl ?_
      refine g_ldc2 (v := 29807) C dX12_isOwn_17 kX12_248 (by decide +kernel) ?_
      obtain ⟨g3, h⟩ := h
      obtain ⟨ht, hf⟩ := h
      refine g_lcmp_eq (tgt := 40) C dX12_isOwn_20 dX12_isOwn_21 (by decide) g3 (by decide) (fun c => ?_) (fun c => ?_)
      · have h := ht c
        refine G.sub [] rfl ?_
        exact w_X12_isOwn_J40 C hR  h
      · have h := hf c
        refine g_lload_n (q := 1) C dX12_isOwn_24 rfl rfl ?_
        refine g_ldc2 (v := 123581014175598) C dX12_isOwn_25 kX12_250 (by decide +kernel) ?_
        obtain ⟨g4, h⟩ := h
        obtain ⟨ht, hf⟩ := h
        refine g_lcmp_eq (tgt := 40) C dX12_isOwn_28 dX12_isOwn_29 (by decide) g4 (by decide) (fun c => ?_) (fun c => ?_)
        · have h := ht c
          refine G.sub [] rfl ?_
          exact w_X12_isOwn_J40 C hR  h
        · have h := hf c
          refine g_lload_n (q := 1) C dX12_isOwn_32 rfl rfl ?_
          refine g_ldc2 (v := 24948) C dX12_isOwn_33 kX12_252 (by decide +kernel) ?_
          obtain ⟨g5, h⟩ := h
          obtain ⟨ht, hf⟩ := h
          refine g_lcmp_ne (tgt := 42) C dX12_isOwn_36 dX12_isOwn_37 (by decide) g5 (by decide) (fun c => ?_) (fun c => ?_)
          · have h := hf c
            refine g_lload_n (q := 1) C dX12_isOwn_42 rfl rfl ?_
            refine g_ldc2 (v := 1802071652) C dX12_isOwn_43 kX12_254 (by decide +kernel) ?_
            obtain ⟨g6, h⟩ := h
            obtain ⟨ht, hf⟩ := h
            refine g_lcmp_eq (tgt := 82) C dX12_isOwn_46 dX12_isOwn_47 (by decide) g6 (by decide) (fun c => ?_) (fun c => ?_)
            · have h := ht c
              refine G.sub [] rfl ?_
              exact w_X12_isOwn_J82 C hR  h
            · have h := hf c
              refine g_lload_n (q := 1) C dX12_isOwn_50 rfl rfl ?_
              refine g_ldc2 (v := 512736125800) C dX12_isOwn_51 kX12_256 (by decide +kernel) ?_
              obtain ⟨g7, h⟩ := h
              obtain ⟨ht, hf⟩ := h
              refine g_lcmp_eq (tgt := 82) C dX12_isOwn_54 dX12_isOwn_55 (by decide) g7 (by decide) (fun c => ?_) (fun c => ?_)
              · have h := ht c
                refine G.sub [] rfl ?_
                exact w_X12_isOwn_J82 C hR  h
              · have h := hf c
                refine g_lload_n (q := 1) C dX12_isOwn_58 rfl rfl ?_
                refine g_ldc2 (v := 440005651813) C dX12_isOwn_59 kX12_258 (by decide +kernel) ?_
                obtain ⟨g8, h⟩ := h
                obtain ⟨ht, hf⟩ := h
                refine g_lcmp_eq (tgt := 82) C dX12_isOwn_62 dX12_isOwn_63 (by decide) g8 (by decide) (fun c => ?_) (fun c => ?_)
                · have h := ht c
                  refine G.sub [] rfl ?_
                  exact w_X12_isOwn_J82 C hR  h
                · have h := hf c
                  refine g_lload_n (q := 1) C dX12_isOwn_66 rfl rfl ?_
                  refine g_ldc2 (v := 495873784179) C dX12_isOwn_67 kX12_260 (by decide +kernel) ?_
                  obtain ⟨g9, h⟩ := h
                  obtain ⟨ht, hf⟩ := h
                  refine g_lcmp_eq (tgt := 82) C dX12_isOwn_70 dX12_isOwn_71 (by decide) g9 (by decide) (fun c => ?_) (fun c => ?_)
                  · have h := ht c
                    refine G.sub [] rfl ?_
                    exact w_X12_isOwn_J82 C hR  h
                  · have h := hf c
                    refine g_lload_n (q := 1) C dX12_isOwn_74 rfl rfl ?_
                    refine g_ldc2 (v := 1735353715) C dX12_isOwn_75 kX12_262 (by decide +kernel) ?_
                    obtain ⟨g10, h⟩ := h
                    obtain ⟨ht, hf⟩ := h
                    refine g_lcmp_ne (tgt := 84) C dX12_isOwn_78 dX12_isOwn_79 (by decide) g10 (by decide) (fun c => ?_) (fun c => ?_)
                    · have h := hf c
                      refine g_lload_n (q := 1) C dX12_isOwn_84 rfl rfl ?_
                      refine g_ldc2 (v := 1918986606) C dX12_isOwn_85 kX12_264 (by decide +kernel) ?_
                      obtain ⟨g11, h⟩ := h
                      obtain ⟨ht, hf⟩ := h
                      refine g_lcmp_eq (tgt := 124) C dX12_isOwn_88 dX12_isOwn_89 (by decide) g11 (by decide) (fun c => ?_) (fun c => ?_)
                      · have h := ht c
                        refine G.sub [] rfl ?_
                        exact w_X12_isOwn_J124 C hR  h
                      · have h := hf c
                        refine g_lload_n (q := 1) C dX12_isOwn_92 rfl rfl ?_
                        refine g_ldc2 (v := 1937007984) C dX12_isOwn_93 kX12_266 (by decide +kernel) ?_
                        obtain ⟨g12, h⟩ := h
                        obtain ⟨ht, hf⟩ := h
                        refine g_lcmp_eq (tgt := 124) C dX12_isOwn_96 dX12_isOwn_97 (by decide) g12 (by decide) (fun c => ?_) (fun c => ?_)
                        · have h := ht c
                          refine G.sub [] rfl ?_
                          exact w_X12_isOwn_J124 C hR  h
                        · have h := hf c
                          refine g_lload_n (q := 1) C dX12_isOwn_100 rfl rfl ?_
                          refine g_ldc2 (v := 6578553) C dX12_isOwn_101 kX12_268 (by decide +kernel) ?_
                          obtain ⟨g13, h⟩ := h
                          obtain ⟨ht, hf⟩ := h
                          refine g_lcmp_eq (tgt := 124) C dX12_isOwn_104 dX12_isOwn_105 (by decide) g13 (by decide) (fun c => ?_) (fun c => ?_)
                          · have h := ht c
                            refine G.sub [] rfl ?_
                            exact w_X12_isOwn_J124 C hR  h
                          · have h := hf c
                            refine g_lload_n (q := 1) C dX12_isOwn_108 rfl rfl ?_
                            refine g_ldc2 (v := 1751478885) C dX12_isOwn_109 kX12_270 (by decide +kernel) ?_
                            obtain ⟨g14, h⟩ := h
                            obtain ⟨ht, hf⟩ := h
                            refine g_lcmp_eq (tgt := 124) C dX12_isOwn_112 dX12_isOwn_113 (by decide) g14 (by decide) (fun c => ?_) (fun c => ?_)
                            · have h := ht c
                              refine G.sub [] rfl ?_
                              exact w_X12_isOwn_J124 C hR  h
                            · have h := hf c
                              refine g_lload_n (q := 1) C dX12_isOwn_116 rfl rfl ?_
                              refine g_ldc2 (v := 495673374574) C dX12_isOwn_117 kX12_272 (by decide +kernel) ?_
                              obtain ⟨g15, h⟩ := h
                              obtain ⟨ht, hf⟩ := h
                              refine g_lcmp_ne (tgt := 126) C dX12_isOwn_120 dX12_isOwn_121 (by decide) g15 (by decide) (fun c => ?_) (fun c => ?_)
                              · have h := hf c
                                refine g_lload_n (q := 1) C dX12_isOwn_126 rfl rfl ?_
                                refine g_ldc2 (v := 499967685221) C dX12_isOwn_127 kX12_274 (by decide +kernel) ?_
                                obtain ⟨g16, h⟩ := h
                                obtain ⟨ht, hf⟩ := h
                                refine g_lcmp_eq (tgt := 166) C dX12_isOwn_130 dX12_isOwn_131 (by decide) g16 (by decide) (fun c => ?_) (fun c => ?_)
                                · have h := ht c
                                  refine G.sub [] rfl ?_
                                  exact w_X12_isOwn_J166 C hR  h
                                · have h := hf c
                                  refine g_lload_n (q := 1) C dX12_isOwn_134 rfl rfl ?_
                                  refine g_ldc2 (v := 6709618) C dX12_isOwn_135 kX12_276 (by decide +kernel) ?_
                                  obtain ⟨g17, h⟩ := h
                                  obtain ⟨ht, hf⟩ := h
                                  refine g_lcmp_eq (tgt := 166) C dX12_isOwn_138 dX12_isOwn_139 (by decide) g17 (by decide) (fun c => ?_) (fun c => ?_)
                                  · have h := ht c
                                    refine G.sub [] rfl ?_
                                    exact w_X12_isOwn_J166 C hR  h
                                  · have h := hf c
                                    refine g_lload_n (q := 1) C dX12_isOwn_142 rfl rfl ?_
                                    refine g_ldc2 (v := 26982) C dX12_isOwn_143 kX12_278 (by decide +kernel) ?_
                                    obtain ⟨g18, h⟩ := h
                                    obtain ⟨ht, hf⟩ := h
                                    refine g_lcmp_eq (tgt := 166) C dX12_isOwn_146 dX12_isOwn_147 (by decide) g18 (by decide) (fun c => ?_) (fun c => ?_)
                                    · have h := ht c
                                      refine G.sub [] rfl ?_
                                      exact w_X12_isOwn_J166 C hR  h
                                    · have h := hf c
                                      refine g_lload_n (q := 1) C dX12_isOwn_150 rfl rfl ?_
                                      refine g_ldc2 (v := 28530) C dX12_isOwn_151 kX12_280 (by decide +kernel) ?_
                                      obtain ⟨g19, h⟩ := h
                                      obtain ⟨ht, hf⟩ := h
                                      refine g_lcmp_eq (tgt := 166) C dX12_isOwn_154 dX12_isOwn_155 (by decide) g19 (by decide) (fun c => ?_) (fun c => ?_)
                                      · have h := ht c
                                        refine G.sub [] rfl ?_
                                        exact w_X12_isOwn_J166 C hR  h
                                      · have h := hf c
                                        refine g_lload_n (q := 1) C dX12_isOwn_158 rfl rfl ?_
                                        refine g_ldc2 (v := 6385252) C dX12_isOwn_159 kX12_282 (by decide +kernel) ?_
                                        obtain ⟨g20, h⟩ := h
                                        obtain ⟨ht, hf⟩ := h
                                        refine g_lcmp_ne (tgt := 168) C dX12_isOwn_162 dX12_isOwn_163 (by decide) g20 (by decide) (fun c => ?_) (fun c => ?_)
                                        · have h := hf c
                                          refine g_lload_n (q := 1) C dX12_isOwn_168 rfl rfl ?_
                                          refine g_ldc2 (v := 7237492) C dX12_isOwn_169 kX12_284 (by decide +kernel) ?_
                                          obtain ⟨g21, h⟩ := h
                                          obtain ⟨ht, hf⟩ := h
                                          refine g_lcmp_eq (tgt := 200) C dX12_isOwn_172 dX12_isOwn_173 (by decide) g21 (by decide) (fun c => ?_) (fun c => ?_)
                                          · have h := ht c
                                            refine G.sub [] rfl ?_
                                            exact w_X12_isOwn_J200 C hR  h
                                          · have h := hf c
                                            refine g_lload_n (q := 1) C dX12_isOwn_176 rfl rfl ?_
                                            refine g_ldc2 (v := 6384748) C dX12_isOwn_177 kX12_286 (by decide +kernel) ?_
                                            obtain ⟨g22, h⟩ := h
                                            obtain ⟨ht, hf⟩ := h
                                            refine g_lcmp_eq (tgt := 200) C dX12_isOwn_180 dX12_isOwn_181 (by decide) g22 (by decide) (fun c => ?_) (fun c => ?_)
                                            · have h := ht c
                                              refine G.sub [] rfl ?_
                                              exact w_X12_isOwn_J200 C hR  h
                                            · have h := hf c
                                              refine g_lload_n (q := 1) C dX12_isOwn_184 rfl rfl ?_
                                              refine g_ldc2 (v := 7170414) C dX12_isOwn_185 kX12_288 (by decide +kernel) ?_
                                              obtain ⟨g23, h⟩ := h
                                              obtain ⟨ht, hf⟩ := h
                                              refine g_lcmp_eq (tgt := 200) C dX12_isOwn_188 dX12_isOwn_189 (by decide) g23 (by decide) (fun c => ?_) (fun c => ?_)
                                              · have h := ht c
                                                refine G.sub [] rfl ?_
                                                exact w_X12_isOwn_J200 C hR  h
                                              · have h := hf c
                                                refine g_lload_n (q := 1) C dX12_isOwn_192 rfl rfl ?_
                                                refine g_ldc2 (v := 7168376) C dX12_isOwn_193 kX12_290 (by decide +kernel) ?_
                                                obtain ⟨g24, h⟩ := h
                                                obtain ⟨ht, hf⟩ := h
                                                refine g_lcmp_ne (tgt := 202) C dX12_isOwn_196 dX12_isOwn_197 (by decide) g24 (by decide) (fun c => ?_) (fun c => ?_)
                                                · have h := hf c
                                                  refine g_iconst C dX12_isOwn_202 rfl ?_
                                                  exact g_retz C hR dX12_isOwn_203 (by decide) h
                                                · have h := ht c
                                                  refine G.sub [] rfl ?_
                                                  exact w_X12_isOwn_J200 C hR  h
                                        · have h := ht c
                                          refine G.sub [] rfl ?_
                                          exact w_X12_isOwn_J166 C hR  h
                              · have h := ht c
                                refine G.sub [] rfl ?_
                                exact w_X12_isOwn_J124 C hR  h
                    · have h := ht c
                      refine G.sub [] rfl ?_
                      exact w_X12_isOwn_J82 C hR  h
          · have h := ht c
            refine G.sub [] rfl ?_
            exact w_X12_isOwn_J40 C hR  h
