theorem dX12_beganBits_0 : decode cX12_beganBits 0 = .ok (.iconst 0, 1) := by decide +kernel
theorem dX12_beganBits_1 : decode cX12_beganBits 1 = .ok (.istore_n 2, 1) := by decide +kernel
theorem dX12_beganBits_2 : decode cX12_beganBits 2 = .ok (.iconst 0, 1) := by decide +kernel
theorem dX12_beganBits_3 : decode cX12_beganBits 3 = .ok (.istore_n 3, 1) := by decide +kernel
theorem dX12_beganBits_4 : decode cX12_beganBits 4 = .ok (.iload_n 3, 1) := by decide +kernel
theorem dX12_beganBits_5 : decode cX12_beganBits 5 = .ok (.aload_n 0, 1) := by decide +kernel
theorem dX12_beganBits_6 : decode cX12_beganBits 6 = .ok (.getfield 54, 3) := by decide +kernel
theorem dX12_beganBits_9 : decode cX12_beganBits 9 = .ok (.aload_n 0, 1) := by decide +kernel
theorem dX12_beganBits_10 : decode cX12_beganBits 10 = .ok (.getfield 51, 3) := by decide +kernel
theorem dX12_beganBits_13 : decode cX12_beganBits 13 = .ok (.iaload, 1) := by decide +kernel
theorem dX12_beganBits_14 : decode cX12_beganBits 14 = .ok (.if_icmp .ge 171, 3) := by decide +kernel
theorem dX12_beganBits_17 : decode cX12_beganBits 17 = .ok (.aload_n 0, 1) := by decide +kernel
theorem dX12_beganBits_18 : decode cX12_beganBits 18 = .ok (.iconst 1, 1) := by decide +kernel
theorem dX12_beganBits_19 : decode cX12_beganBits 19 = .ok (.iconst 0, 1) := by decide +kernel
theorem dX12_beganBits_20 : decode cX12_beganBits 20 = .ok (.invokevirtual 411, 3) := by decide +kernel
theorem dX12_beganBits_23 : decode cX12_beganBits 23 = .ok (.aload_n 0, 1) := by decide +kernel
theorem dX12_beganBits_24 : decode cX12_beganBits 24 = .ok (.getfield 159, 3) := by decide +kernel
theorem dX12_beganBits_27 : decode cX12_beganBits 27 = .ok (.bipush 6, 2) := by decide +kernel
theorem dX12_beganBits_29 : decode cX12_beganBits 29 = .ok (.iload_n 1, 1) := by decide +kernel
theorem dX12_beganBits_30 : decode cX12_beganBits 30 = .ok (.iadd, 1) := by decide +kernel
theorem dX12_beganBits_31 : decode cX12_beganBits 31 = .ok (.iload_n 3, 1) := by decide +kernel
theorem dX12_beganBits_32 : decode cX12_beganBits 32 = .ok (.iastore, 1) := by decide +kernel
theorem dX12_beganBits_33 : decode cX12_beganBits 33 = .ok (.aload_n 0, 1) := by decide +kernel
theorem dX12_beganBits_34 : decode cX12_beganBits 34 = .ok (.iconst 1, 1) := by decide +kernel
theorem dX12_beganBits_35 : decode cX12_beganBits 35 = .ok (.invokevirtual 453, 3) := by decide +kernel
theorem dX12_beganBits_38 : decode cX12_beganBits 38 = .ok (.iconst 1, 1) := by decide +kernel
theorem dX12_beganBits_39 : decode cX12_beganBits 39 = .ok (.istore 4, 2) := by decide +kernel
theorem dX12_beganBits_41 : decode cX12_beganBits 41 = .ok (.iconst 0, 1) := by decide +kernel
theorem dX12_beganBits_42 : decode cX12_beganBits 42 = .ok (.istore 5, 2) := by decide +kernel
theorem dX12_beganBits_44 : decode cX12_beganBits 44 = .ok (.iload 5, 2) := by decide +kernel
theorem dX12_beganBits_46 : decode cX12_beganBits 46 = .ok (.aload_n 0, 1) := by decide +kernel
theorem dX12_beganBits_47 : decode cX12_beganBits 47 = .ok (.getfield 195, 3) := by decide +kernel
theorem dX12_beganBits_50 : decode cX12_beganBits 50 = .ok (.if_icmp .ge 49, 3) := by decide +kernel
theorem dX12_beganBits_53 : decode cX12_beganBits 53 = .ok (.iload 4, 2) := by decide +kernel
theorem dX12_beganBits_55 : decode cX12_beganBits 55 = .ok (.ifCond .eq 35, 3) := by decide +kernel
theorem dX12_beganBits_58 : decode cX12_beganBits 58 = .ok (.aload_n 0, 1) := by decide +kernel
theorem dX12_beganBits_59 : decode cX12_beganBits 59 = .ok (.aload_n 0, 1) := by decide +kernel
theorem dX12_beganBits_60 : decode cX12_beganBits 60 = .ok (.getfield 198, 3) := by decide +kernel
theorem dX12_beganBits_63 : decode cX12_beganBits 63 = .ok (.iload 5, 2) := by decide +kernel
theorem dX12_beganBits_65 : decode cX12_beganBits 65 = .ok (.iaload, 1) := by decide +kernel
theorem dX12_beganBits_66 : decode cX12_beganBits 66 = .ok (.aload_n 0, 1) := by decide +kernel
theorem dX12_beganBits_67 : decode cX12_beganBits 67 = .ok (.getfield 201, 3) := by decide +kernel
theorem dX12_beganBits_70 : decode cX12_beganBits 70 = .ok (.iload 5, 2) := by decide +kernel
theorem dX12_beganBits_72 : decode cX12_beganBits 72 = .ok (.iaload, 1) := by decide +kernel
theorem dX12_beganBits_73 : decode cX12_beganBits 73 = .ok (.invokevirtual 430, 3) := by decide +kernel
theorem dX12_beganBits_76 : decode cX12_beganBits 76 = .ok (.aload_n 0, 1) := by decide +kernel
theorem dX12_beganBits_77 : decode cX12_beganBits 77 = .ok (.getfield 204, 3) := by decide +kernel
theorem dX12_beganBits_80 : decode cX12_beganBits 80 = .ok (.iload 5, 2) := by decide +kernel
theorem dX12_beganBits_82 : decode cX12_beganBits 82 = .ok (.iaload, 1) := by decide +kernel
theorem dX12_beganBits_83 : decode cX12_beganBits 83 = .ok (.if_icmp .ne 7, 3) := by decide +kernel
theorem dX12_beganBits_86 : decode cX12_beganBits 86 = .ok (.iconst 1, 1) := by decide +kernel
theorem dX12_beganBits_87 : decode cX12_beganBits 87 = .ok (.goto 4, 3) := by decide +kernel
theorem dX12_beganBits_90 : decode cX12_beganBits 90 = .ok (.iconst 0, 1) := by decide +kernel
theorem dX12_beganBits_91 : decode cX12_beganBits 91 = .ok (.istore 4, 2) := by decide +kernel
theorem dX12_beganBits_93 : decode cX12_beganBits 93 = .ok (.iinc 5 1, 3) := by decide +kernel
theorem dX12_beganBits_96 : decode cX12_beganBits 96 = .ok (.goto (-52), 3) := by decide +kernel
theorem dX12_beganBits_99 : decode cX12_beganBits 99 = .ok (.iload_n 2, 1) := by decide +kernel
theorem dX12_beganBits_100 : decode cX12_beganBits 100 = .ok (.iload 4, 2) := by decide +kernel
theorem dX12_beganBits_102 : decode cX12_beganBits 102 = .ok (.ifCond .eq 9, 3) := by decide +kernel
theorem dX12_beganBits_105 : decode cX12_beganBits 105 = .ok (.iconst 1, 1) := by decide +kernel
theorem dX12_beganBits_106 : decode cX12_beganBits 106 = .ok (.iload_n 3, 1) := by decide +kernel
theorem dX12_beganBits_107 : decode cX12_beganBits 107 = .ok (.ishl, 1) := by decide +kernel
theorem dX12_beganBits_108 : decode cX12_beganBits 108 = .ok (.goto 4, 3) := by decide +kernel
theorem dX12_beganBits_111 : decode cX12_beganBits 111 = .ok (.iconst 0, 1) := by decide +kernel
theorem dX12_beganBits_112 : decode cX12_beganBits 112 = .ok (.ior, 1) := by decide +kernel
theorem dX12_beganBits_113 : decode cX12_beganBits 113 = .ok (.istore_n 2, 1) := by decide +kernel
theorem dX12_beganBits_114 : decode cX12_beganBits 114 = .ok (.iconst 1, 1) := by decide +kernel
theorem dX12_beganBits_115 : decode cX12_beganBits 115 = .ok (.istore 5, 2) := by decide +kernel
theorem dX12_beganBits_117 : decode cX12_beganBits 117 = .ok (.iload 5, 2) := by decide +kernel
theorem dX12_beganBits_119 : decode cX12_beganBits 119 = .ok (.bipush 8, 2) := by decide +kernel
theorem dX12_beganBits_121 : decode cX12_beganBits 121 = .ok (.if_icmp .gt 58, 3) := by decide +kernel
theorem dX12_beganBits_124 : decode cX12_beganBits 124 = .ok (.iconst 0, 1) := by decide +kernel
theorem dX12_beganBits_125 : decode cX12_beganBits 125 = .ok (.istore 6, 2) := by decide +kernel
theorem dX12_beganBits_127 : decode cX12_beganBits 127 = .ok (.iload 6, 2) := by decide +kernel
theorem dX12_beganBits_129 : decode cX12_beganBits 129 = .ok (.aload_n 0, 1) := by decide +kernel
theorem dX12_beganBits_130 : decode cX12_beganBits 130 = .ok (.getfield 54, 3) := by decide +kernel
theorem dX12_beganBits_133 : decode cX12_beganBits 133 = .ok (.aload_n 0, 1) := by decide +kernel
theorem dX12_beganBits_134 : decode cX12_beganBits 134 = .ok (.getfield 51, 3) := by decide +kernel
theorem dX12_beganBits_137 : decode cX12_beganBits 137 = .ok (.iaload, 1) := by decide +kernel
theorem dX12_beganBits_138 : decode cX12_beganBits 138 = .ok (.if_icmp .ge 35, 3) := by decide +kernel
theorem dX12_beganBits_141 : decode cX12_beganBits 141 = .ok (.aload_n 0, 1) := by decide +kernel
theorem dX12_beganBits_142 : decode cX12_beganBits 142 = .ok (.getfield 207, 3) := by decide +kernel
theorem dX12_beganBits_145 : decode cX12_beganBits 145 = .ok (.bipush 63, 2) := by decide +kernel
theorem dX12_beganBits_147 : decode cX12_beganBits 147 = .ok (.iload_n 3, 1) := by decide +kernel
theorem dX12_beganBits_148 : decode cX12_beganBits 148 = .ok (.imul, 1) := by decide +kernel
theorem dX12_beganBits_149 : decode cX12_beganBits 149 = .ok (.bipush 7, 2) := by decide +kernel
theorem dX12_beganBits_151 : decode cX12_beganBits 151 = .ok (.iload 5, 2) := by decide +kernel
theorem dX12_beganBits_153 : decode cX12_beganBits 153 = .ok (.imul, 1) := by decide +kernel
theorem dX12_beganBits_154 : decode cX12_beganBits 154 = .ok (.iadd, 1) := by decide +kernel
theorem dX12_beganBits_155 : decode cX12_beganBits 155 = .ok (.iload 6, 2) := by decide +kernel
theorem dX12_beganBits_157 : decode cX12_beganBits 157 = .ok (.iadd, 1) := by decide +kernel
theorem dX12_beganBits_158 : decode cX12_beganBits 158 = .ok (.aload_n 0, 1) := by decide +kernel
theorem dX12_beganBits_159 : decode cX12_beganBits 159 = .ok (.iload 5, 2) := by decide +kernel
theorem dX12_beganBits_161 : decode cX12_beganBits 161 = .ok (.iload 6, 2) := by decide +kernel
theorem dX12_beganBits_163 : decode cX12_beganBits 163 = .ok (.invokevirtual 430, 3) := by decide +kernel
theorem dX12_beganBits_166 : decode cX12_beganBits 166 = .ok (.iastore, 1) := by decide +kernel
theorem dX12_beganBits_167 : decode cX12_beganBits 167 = .ok (.iinc 6 1, 3) := by decide +kernel
theorem dX12_beganBits_170 : decode cX12_beganBits 170 = .ok (.goto (-43), 3) := by decide +kernel
theorem dX12_beganBits_173 : decode cX12_beganBits 173 = .ok (.iinc 5 1, 3) := by decide +kernel
theorem dX12_beganBits_176 : decode cX12_beganBits 176 = .ok (.goto (-59), 3) := by decide +kernel
theorem dX12_beganBits_179 : decode cX12_beganBits 179 = .ok (.iinc 3 1, 3) := by decide +kernel
theorem dX12_beganBits_182 : decode cX12_beganBits 182 = .ok (.goto (-178), 3) := by decide +kernel
theorem dX12_beganBits_185 : decode cX12_beganBits 185 = .ok (.iload_n 2, 1) := by decide +kernel
theorem dX12_beganBits_186 : decode cX12_beganBits 186 = .ok (.ireturn, 1) := by decide +kernel
theorem dX12_began_0 : decode cX12_began 0 = .ok (.aload_n 0, 1) := by decide +kernel
theorem dX12_began_1 : decode cX12_began 1 = .ok (.iload_n 1, 1) := by decide +kernel
theorem dX12_began_2 : decode cX12_began 2 = .ok (.invokevirtual 473, 3) := by decide +kernel
theorem dX12_began_5 : decode cX12_began 5 = .ok (.ifCond .eq 12, 3) := by decide +kernel
theorem dX12_began_8 : decode cX12_began 8 = .ok (.iload_n 2, 1) := by decide +kernel
theorem dX12_began_9 : decode cX12_began 9 = .ok (.iconst 0, 1) := by decide +kernel
theorem dX12_began_10 : decode cX12_began 10 = .ok (.iconst 3, 1) := by decide +kernel
theorem dX12_began_11 : decode cX12_began 11 = .ok (.invokestatic 300, 3) := by decide +kernel
theorem dX12_began_14 : decode cX12_began 14 = .ok (.ifCond .ne 5, 3) := by decide +kernel
theorem dX12_began_17 : decode cX12_began 17 = .ok (.iconst (-1), 1) := by decide +kernel
theorem dX12_began_18 : decode cX12_began 18 = .ok (.ireturn, 1) := by decide +kernel
theorem dX12_began_19 : decode cX12_began 19 = .ok (.aload_n 0, 1) := by decide +kernel
theorem dX12_began_20 : decode cX12_began 20 = .ok (.iload_n 1, 1) := by decide +kernel
theorem dX12_began_21 : decode cX12_began 21 = .ok (.invokevirtual 500, 3) := by decide +kernel
theorem dX12_began_24 : decode cX12_began 24 = .ok (.istore_n 3, 1) := by decide +kernel
theorem dX12_began_25 : decode cX12_began 25 = .ok (.iload_n 2, 1) := by decide +kernel
theorem dX12_began_26 : decode cX12_began 26 = .ok (.ifCond .ne 5, 3) := by decide +kernel
theorem dX12_began_29 : decode cX12_began 29 = .ok (.iload_n 3, 1) := by decide +kernel
theorem dX12_began_30 : decode cX12_began 30 = .ok (.ireturn, 1) := by decide +kernel
theorem dX12_began_31 : decode cX12_began 31 = .ok (.iconst (-1), 1) := by decide +kernel
theorem dX12_began_32 : decode cX12_began 32 = .ok (.istore 4, 2) := by decide +kernel
theorem dX12_began_34 : decode cX12_began 34 = .ok (.ldc_w 395, 3) := by decide +kernel
theorem dX12_began_37 : decode cX12_began 37 = .ok (.istore 5, 2) := by decide +kernel
theorem dX12_began_39 : decode cX12_began 39 = .ok (.bipush 7, 2) := by decide +kernel
theorem dX12_began_41 : decode cX12_began 41 = .ok (.istore 6, 2) := by decide +kernel
theorem dX12_began_43 : decode cX12_began 43 = .ok (.iload 6, 2) := by decide +kernel
theorem dX12_began_45 : decode cX12_began 45 = .ok (.bipush 63, 2) := by decide +kernel
theorem dX12_began_47 : decode cX12_began 47 = .ok (.if_icmp .ge 162, 3) := by decide +kernel
theorem dX12_began_50 : decode cX12_began 50 = .ok (.iload_n 3, 1) := by decide +kernel
theorem dX12_began_51 : decode cX12_began 51 = .ok (.ifCond .eq 158, 3) := by decide +kernel
theorem dX12_began_54 : decode cX12_began 54 = .ok (.iload 6, 2) := by decide +kernel
theorem dX12_began_56 : decode cX12_began 56 = .ok (.bipush 7, 2) := by decide +kernel
theorem dX12_began_58 : decode cX12_began 58 = .ok (.irem, 1) := by decide +kernel
theorem dX12_began_59 : decode cX12_began 59 = .ok (.aload_n 0, 1) := by decide +kernel
theorem dX12_began_60 : decode cX12_began 60 = .ok (.getfield 54, 3) := by decide +kernel
theorem dX12_began_63 : decode cX12_began 63 = .ok (.aload_n 0, 1) := by decide +kernel
theorem dX12_began_64 : decode cX12_began 64 = .ok (.getfield 51, 3) := by decide +kernel
theorem dX12_began_67 : decode cX12_began 67 = .ok (.iaload, 1) := by decide +kernel
theorem dX12_began_68 : decode cX12_began 68 = .ok (.if_icmp .lt 6, 3) := by decide +kernel
theorem dX12_began_71 : decode cX12_began 71 = .ok (.goto 132, 3) := by decide +kernel
theorem dX12_began_74 : decode cX12_began 74 = .ok (.iconst 0, 1) := by decide +kernel
theorem dX12_began_75 : decode cX12_began 75 = .ok (.istore 7, 2) := by decide +kernel
theorem dX12_began_77 : decode cX12_began 77 = .ok (.iconst 0, 1) := by decide +kernel
theorem dX12_began_78 : decode cX12_began 78 = .ok (.istore 8, 2) := by decide +kernel
theorem dX12_began_80 : decode cX12_began 80 = .ok (.iload 8, 2) := by decide +kernel
theorem dX12_began_82 : decode cX12_began 82 = .ok (.bipush 7, 2) := by decide +kernel
theorem dX12_began_84 : decode cX12_began 84 = .ok (.if_icmp .ge 101, 3) := by decide +kernel
theorem dX12_began_87 : decode cX12_began 87 = .ok (.iconst 0, 1) := by decide +kernel
theorem dX12_began_88 : decode cX12_began 88 = .ok (.istore 9, 2) := by decide +kernel
theorem dX12_began_90 : decode cX12_began 90 = .ok (.iconst 0, 1) := by decide +kernel
theorem dX12_began_91 : decode cX12_began 91 = .ok (.istore 10, 2) := by decide +kernel
theorem dX12_began_93 : decode cX12_began 93 = .ok (.iload 10, 2) := by decide +kernel
theorem dX12_began_95 : decode cX12_began 95 = .ok (.bipush 7, 2) := by decide +kernel
theorem dX12_began_97 : decode cX12_began 97 = .ok (.if_icmp .ge 66, 3) := by decide +kernel
theorem dX12_began_100 : decode cX12_began 100 = .ok (.iload 9, 2) := by decide +kernel
theorem dX12_began_102 : decode cX12_began 102 = .ok (.iload_n 3, 1) := by decide +kernel
theorem dX12_began_103 : decode cX12_began 103 = .ok (.iload 8, 2) := by decide +kernel
theorem dX12_began_105 : decode cX12_began 105 = .ok (.invokestatic 342, 3) := by decide +kernel
theorem dX12_began_108 : decode cX12_began 108 = .ok (.ifCond .eq 45, 3) := by decide +kernel
theorem dX12_began_111 : decode cX12_began 111 = .ok (.iload_n 3, 1) := by decide +kernel
theorem dX12_began_112 : decode cX12_began 112 = .ok (.iload 10, 2) := by decide +kernel
theorem dX12_began_114 : decode cX12_began 114 = .ok (.invokestatic 342, 3) := by decide +kernel
theorem dX12_began_117 : decode cX12_began 117 = .ok (.ifCond .eq 36, 3) := by decide +kernel
theorem dX12_began_120 : decode cX12_began 120 = .ok (.aload_n 0, 1) := by decide +kernel
theorem dX12_began_121 : decode cX12_began 121 = .ok (.getfield 207, 3) := by decide +kernel
theorem dX12_began_124 : decode cX12_began 124 = .ok (.bipush 63, 2) := by decide +kernel
theorem dX12_began_126 : decode cX12_began 126 = .ok (.iload 8, 2) := by decide +kernel
theorem dX12_began_128 : decode cX12_began 128 = .ok (.imul, 1) := by decide +kernel
theorem dX12_began_129 : decode cX12_began 129 = .ok (.iload 6, 2) := by decide +kernel
theorem dX12_began_131 : decode cX12_began 131 = .ok (.iadd, 1) := by decide +kernel
theorem dX12_began_132 : decode cX12_began 132 = .ok (.iaload, 1) := by decide +kernel
theorem dX12_began_133 : decode cX12_began 133 = .ok (.aload_n 0, 1) := by decide +kernel
theorem dX12_began_134 : decode cX12_began 134 = .ok (.getfield 207, 3) := by decide +kernel
theorem dX12_began_137 : decode cX12_began 137 = .ok (.bipush 63, 2) := by decide +kernel
theorem dX12_began_139 : decode cX12_began 139 = .ok (.iload 10, 2) := by decide +kernel
theorem dX12_began_141 : decode cX12_began 141 = .ok (.imul, 1) := by decide +kernel
theorem dX12_began_142 : decode cX12_began 142 = .ok (.iload 6, 2) := by decide +kernel
theorem dX12_began_144 : decode cX12_began 144 = .ok (.iadd, 1) := by decide +kernel
theorem dX12_began_145 : decode cX12_began 145 = .ok (.iaload, 1) := by decide +kernel
theorem dX12_began_146 : decode cX12_began 146 = .ok (.if_icmp .ne 7, 3) := by decide +kernel
theorem dX12_began_149 : decode cX12_began 149 = .ok (.iconst 1, 1) := by decide +kernel
theorem dX12_began_150 : decode cX12_began 150 = .ok (.goto 4, 3) := by decide +kernel
theorem dX12_began_153 : decode cX12_began 153 = .ok (.iconst 0, 1) := by decide +kernel
theorem dX12_began_154 : decode cX12_began 154 = .ok (.iadd, 1) := by decide +kernel
theorem dX12_began_155 : decode cX12_began 155 = .ok (.istore 9, 2) := by decide +kernel
theorem dX12_began_157 : decode cX12_began 157 = .ok (.iinc 10 1, 3) := by decide +kernel
theorem dX12_began_160 : decode cX12_began 160 = .ok (.goto (-67), 3) := by decide +kernel
theorem dX12_began_163 : decode cX12_began 163 = .ok (.iload 9, 2) := by decide +kernel
theorem dX12_began_165 : decode cX12_began 165 = .ok (.iload 7, 2) := by decide +kernel
theorem dX12_began_167 : decode cX12_began 167 = .ok (.if_icmp .le 8, 3) := by decide +kernel
theorem dX12_began_170 : decode cX12_began 170 = .ok (.iload 9, 2) := by decide +kernel
theorem dX12_began_172 : decode cX12_began 172 = .ok (.goto 5, 3) := by decide +kernel
theorem dX12_began_175 : decode cX12_began 175 = .ok (.iload 7, 2) := by decide +kernel
theorem dX12_began_177 : decode cX12_began 177 = .ok (.istore 7, 2) := by decide +kernel
theorem dX12_began_179 : decode cX12_began 179 = .ok (.iinc 8 1, 3) := by decide +kernel
theorem dX12_began_182 : decode cX12_began 182 = .ok (.goto (-102), 3) := by decide +kernel
theorem dX12_began_185 : decode cX12_began 185 = .ok (.iload 7, 2) := by decide +kernel
theorem dX12_began_187 : decode cX12_began 187 = .ok (.iload 5, 2) := by decide +kernel
theorem dX12_began_189 : decode cX12_began 189 = .ok (.if_icmp .lt 6, 3) := by decide +kernel
theorem dX12_began_192 : decode cX12_began 192 = .ok (.goto 11, 3) := by decide +kernel
theorem dX12_began_195 : decode cX12_began 195 = .ok (.iload 7, 2) := by decide +kernel
theorem dX12_began_197 : decode cX12_began 197 = .ok (.istore 5, 2) := by decide +kernel
theorem dX12_began_199 : decode cX12_began 199 = .ok (.iload 6, 2) := by decide +kernel
theorem dX12_began_201 : decode cX12_began 201 = .ok (.istore 4, 2) := by decide +kernel
theorem dX12_began_203 : decode cX12_began 203 = .ok (.iinc 6 1, 3) := by decide +kernel
theorem dX12_began_206 : decode cX12_began 206 = .ok (.goto (-163), 3) := by decide +kernel
theorem dX12_began_209 : decode cX12_began 209 = .ok (.iload 4, 2) := by decide +kernel
theorem dX12_began_211 : decode cX12_began 211 = .ok (.iconst (-1), 1) := by decide +kernel
theorem dX12_began_212 : decode cX12_began 212 = .ok (.if_icmp .ne 7, 3) := by decide +kernel
theorem dX12_began_215 : decode cX12_began 215 = .ok (.iconst (-1), 1) := by decide +kernel
theorem dX12_began_216 : decode cX12_began 216 = .ok (.goto 31, 3) := by decide +kernel
theorem dX12_began_219 : decode cX12_began 219 = .ok (.iload_n 2, 1) := by decide +kernel
theorem dX12_began_220 : decode cX12_began 220 = .ok (.iconst 1, 1) := by decide +kernel
theorem dX12_began_221 : decode cX12_began 221 = .ok (.if_icmp .ne 11, 3) := by decide +kernel
theorem dX12_began_224 : decode cX12_began 224 = .ok (.iload 4, 2) := by decide +kernel
theorem dX12_began_226 : decode cX12_began 226 = .ok (.bipush 7, 2) := by decide +kernel
theorem dX12_began_228 : decode cX12_began 228 = .ok (.idiv, 1) := by decide +kernel
theorem dX12_began_229 : decode cX12_began 229 = .ok (.goto 18, 3) := by decide +kernel
theorem dX12_began_232 : decode cX12_began 232 = .ok (.iload_n 2, 1) := by decide +kernel
theorem dX12_began_233 : decode cX12_began 233 = .ok (.iconst 2, 1) := by decide +kernel
theorem dX12_began_234 : decode cX12_began 234 = .ok (.if_icmp .ne 11, 3) := by decide +kernel
theorem dX12_began_237 : decode cX12_began 237 = .ok (.iload 4, 2) := by decide +kernel
theorem dX12_began_239 : decode cX12_began 239 = .ok (.bipush 7, 2) := by decide +kernel
theorem dX12_began_241 : decode cX12_began 241 = .ok (.irem, 1) := by decide +kernel
theorem dX12_began_242 : decode cX12_began 242 = .ok (.goto 5, 3) := by decide +kernel
theorem dX12_began_245 : decode cX12_began 245 = .ok (.iload 5, 2) := by decide +kernel
theorem dX12_began_247 : decode cX12_began 247 = .ok (.ireturn, 1) := by decide +kernel
theorem dX12_days_0 : decode cX12_days 0 = .ok (.aload_n 0, 1) := by decide +kernel
theorem dX12_days_1 : decode cX12_days 1 = .ok (.iload_n 1, 1) := by decide +kernel
theorem dX12_days_2 : decode cX12_days 2 = .ok (.iconst 1, 1) := by decide +kernel
theorem dX12_days_3 : decode cX12_days 3 = .ok (.bipush 40, 2) := by decide +kernel
theorem dX12_days_5 : decode cX12_days 5 = .ok (.invokevirtual 488, 3) := by decide +kernel
theorem dX12_days_8 : decode cX12_days 8 = .ok (.ifCond .ne 9, 3) := by decide +kernel
theorem dX12_days_11 : decode cX12_days 11 = .ok (.aload_n 0, 1) := by decide +kernel
theorem dX12_days_12 : decode cX12_days 12 = .ok (.iconst 2, 1) := by decide +kernel
theorem dX12_days_13 : decode cX12_days 13 = .ok (.invokevirtual 216, 3) := by decide +kernel
theorem dX12_days_16 : decode cX12_days 16 = .ok (.ireturn, 1) := by decide +kernel
theorem dX12_days_17 : decode cX12_days 17 = .ok (.aload_n 0, 1) := by decide +kernel
theorem dX12_days_18 : decode cX12_days 18 = .ok (.invokevirtual 503, 3) := by decide +kernel
theorem dX12_days_21 : decode cX12_days 21 = .ok (.iconst 0, 1) := by decide +kernel
theorem dX12_days_22 : decode cX12_days 22 = .ok (.istore_n 2, 1) := by decide +kernel
theorem dX12_days_23 : decode cX12_days 23 = .ok (.iconst 0, 1) := by decide +kernel
theorem dX12_days_24 : decode cX12_days 24 = .ok (.istore_n 3, 1) := by decide +kernel
theorem dX12_days_25 : decode cX12_days 25 = .ok (.iload_n 3, 1) := by decide +kernel
theorem dX12_days_26 : decode cX12_days 26 = .ok (.iload_n 1, 1) := by decide +kernel
theorem dX12_days_27 : decode cX12_days 27 = .ok (.if_icmp .ge 25, 3) := by decide +kernel
theorem dX12_days_30 : decode cX12_days 30 = .ok (.iload_n 2, 1) := by decide +kernel
theorem dX12_days_31 : decode cX12_days 31 = .ok (.aload_n 0, 1) := by decide +kernel
theorem dX12_days_32 : decode cX12_days 32 = .ok (.iconst 0, 1) := by decide +kernel
theorem dX12_days_33 : decode cX12_days 33 = .ok (.invokevirtual 491, 3) := by decide +kernel
theorem dX12_days_36 : decode cX12_days 36 = .ok (.ifCond .eq 7, 3) := by decide +kernel
theorem dX12_days_39 : decode cX12_days 39 = .ok (.iconst 1, 1) := by decide +kernel
theorem dX12_days_40 : decode cX12_days 40 = .ok (.goto 4, 3) := by decide +kernel
theorem dX12_days_43 : decode cX12_days 43 = .ok (.iconst 0, 1) := by decide +kernel
theorem dX12_days_44 : decode cX12_days 44 = .ok (.iadd, 1) := by decide +kernel
theorem dX12_days_45 : decode cX12_days 45 = .ok (.istore_n 2, 1) := by decide +kernel
theorem dX12_days_46 : decode cX12_days 46 = .ok (.iinc 3 1, 3) := by decide +kernel
theorem dX12_days_49 : decode cX12_days 49 = .ok (.goto (-24), 3) := by decide +kernel
theorem dX12_days_52 : decode cX12_days 52 = .ok (.iload_n 2, 1) := by decide +kernel
theorem dX12_days_53 : decode cX12_days 53 = .ok (.ireturn, 1) := by decide +kernel
theorem dX12_draw_0 : decode cX12_draw 0 = .ok (.aload_n 0, 1) := by decide +kernel
theorem dX12_draw_1 : decode cX12_draw 1 = .ok (.ldc2_w 506, 3) := by decide +kernel
theorem dX12_draw_4 : decode cX12_draw 4 = .ok (.aload_n 0, 1) := by decide +kernel
theorem dX12_draw_5 : decode cX12_draw 5 = .ok (.getfield 183, 3) := by decide +kernel
theorem dX12_draw_8 : decode cX12_draw 8 = .ok (.lmul, 1) := by decide +kernel
theorem dX12_draw_9 : decode cX12_draw 9 = .ok (.ldc2_w 508, 3) := by decide +kernel
theorem dX12_draw_12 : decode cX12_draw 12 = .ok (.ladd, 1) := by decide +kernel
theorem dX12_draw_13 : decode cX12_draw 13 = .ok (.ldc2_w 510, 3) := by decide +kernel
theorem dX12_draw_16 : decode cX12_draw 16 = .ok (.lrem, 1) := by decide +kernel
theorem dX12_draw_17 : decode cX12_draw 17 = .ok (.putfield 183, 3) := by decide +kernel
theorem dX12_draw_20 : decode cX12_draw 20 = .ok (.aload_n 0, 1) := by decide +kernel
theorem dX12_draw_21 : decode cX12_draw 21 = .ok (.getfield 183, 3) := by decide +kernel
theorem dX12_draw_24 : decode cX12_draw 24 = .ok (.ldc2_w 512, 3) := by decide +kernel
theorem dX12_draw_27 : decode cX12_draw 27 = .ok (.ldiv, 1) := by decide +kernel
theorem dX12_draw_28 : decode cX12_draw 28 = .ok (.iload_n 1, 1) := by decide +kernel
theorem dX12_draw_29 : decode cX12_draw 29 = .ok (.i2l, 1) := by decide +kernel
theorem dX12_draw_30 : decode cX12_draw 30 = .ok (.lrem, 1) := by decide +kernel
theorem dX12_draw_31 : decode cX12_draw 31 = .ok (.l2i, 1) := by decide +kernel
theorem dX12_draw_32 : decode cX12_draw 32 = .ok (.ireturn, 1) := by decide +kernel
theorem dX12_chance_0 : decode cX12_chance 0 = .ok (.aload_n 0, 1) := by decide +kernel
theorem dX12_chance_1 : decode cX12_chance 1 = .ok (.iload_n 1, 1) := by decide +kernel
theorem dX12_chance_2 : decode cX12_chance 2 = .ok (.iconst 1, 1) := by decide +kernel
theorem dX12_chance_3 : decode cX12_chance 3 = .ok (.bipush 40, 2) := by decide +kernel
theorem dX12_chance_5 : decode cX12_chance 5 = .ok (.invokevirtual 488, 3) := by decide +kernel
theorem dX12_chance_8 : decode cX12_chance 8 = .ok (.ifCond .ne 9, 3) := by decide +kernel
theorem dX12_chance_11 : decode cX12_chance 11 = .ok (.aload_n 0, 1) := by decide +kernel
theorem dX12_chance_12 : decode cX12_chance 12 = .ok (.iconst 2, 1) := by decide +kernel
theorem dX12_chance_13 : decode cX12_chance 13 = .ok (.invokevirtual 216, 3) := by decide +kernel
theorem dX12_chance_16 : decode cX12_chance 16 = .ok (.ireturn, 1) := by decide +kernel
theorem dX12_chance_17 : decode cX12_chance 17 = .ok (.aload_n 0, 1) := by decide +kernel
theorem dX12_chance_18 : decode cX12_chance 18 = .ok (.invokevirtual 503, 3) := by decide +kernel
theorem dX12_chance_21 : decode cX12_chance 21 = .ok (.iconst 0, 1) := by decide +kernel
theorem dX12_chance_22 : decode cX12_chance 22 = .ok (.istore_n 2, 1) := by decide +kernel
theorem dX12_chance_23 : decode cX12_chance 23 = .ok (.iconst 0, 1) := by decide +kernel
theorem dX12_chance_24 : decode cX12_chance 24 = .ok (.istore_n 3, 1) := by decide +kernel
theorem dX12_chance_25 : decode cX12_chance 25 = .ok (.iload_n 3, 1) := by decide +kernel
theorem dX12_chance_26 : decode cX12_chance 26 = .ok (.iload_n 1, 1) := by decide +kernel
theorem dX12_chance_27 : decode cX12_chance 27 = .ok (.if_icmp .ge 60, 3) := by decide +kernel
theorem dX12_chance_30 : decode cX12_chance 30 = .ok (.aload_n 0, 1) := by decide +kernel
theorem dX12_chance_31 : decode cX12_chance 31 = .ok (.bipush 100, 2) := by decide +kernel
theorem dX12_chance_33 : decode cX12_chance 33 = .ok (.invokevirtual 514, 3) := by decide +kernel
theorem dX12_chance_36 : decode cX12_chance 36 = .ok (.aload_n 0, 1) := by decide +kernel
theorem dX12_chance_37 : decode cX12_chance 37 = .ok (.getfield 90, 3) := by decide +kernel
theorem dX12_chance_40 : decode cX12_chance 40 = .ok (.aload_n 0, 1) := by decide +kernel
theorem dX12_chance_41 : decode cX12_chance 41 = .ok (.getfield 51, 3) := by decide +kernel
theorem dX12_chance_44 : decode cX12_chance 44 = .ok (.iaload, 1) := by decide +kernel
theorem dX12_chance_45 : decode cX12_chance 45 = .ok (.if_icmp .ge 30, 3) := by decide +kernel
theorem dX12_chance_48 : decode cX12_chance 48 = .ok (.aload_n 0, 1) := by decide +kernel
theorem dX12_chance_49 : decode cX12_chance 49 = .ok (.getfield 165, 3) := by decide +kernel
theorem dX12_chance_52 : decode cX12_chance 52 = .ok (.iconst 0, 1) := by decide +kernel
theorem dX12_chance_53 : decode cX12_chance 53 = .ok (.iaload, 1) := by decide +kernel
theorem dX12_chance_54 : decode cX12_chance 54 = .ok (.ifCond .le 21, 3) := by decide +kernel
theorem dX12_chance_57 : decode cX12_chance 57 = .ok (.aload_n 0, 1) := by decide +kernel
theorem dX12_chance_58 : decode cX12_chance 58 = .ok (.iconst 0, 1) := by decide +kernel
theorem dX12_chance_59 : decode cX12_chance 59 = .ok (.aload_n 0, 1) := by decide +kernel
theorem dX12_chance_60 : decode cX12_chance 60 = .ok (.aload_n 0, 1) := by decide +kernel
theorem dX12_chance_61 : decode cX12_chance 61 = .ok (.getfield 165, 3) := by decide +kernel
theorem dX12_chance_64 : decode cX12_chance 64 = .ok (.iconst 0, 1) := by decide +kernel
theorem dX12_chance_65 : decode cX12_chance 65 = .ok (.iaload, 1) := by decide +kernel
theorem dX12_chance_66 : decode cX12_chance 66 = .ok (.invokevirtual 514, 3) := by decide +kernel
theorem dX12_chance_69 : decode cX12_chance 69 = .ok (.invokevirtual 485, 3) := by decide +kernel
theorem dX12_chance_72 : decode cX12_chance 72 = .ok (.iinc 2 1, 3) := by decide +kernel
theorem dX12_chance_75 : decode cX12_chance 75 = .ok (.aload_n 0, 1) := by decide +kernel
theorem dX12_chance_76 : decode cX12_chance 76 = .ok (.iconst 0, 1) := by decide +kernel
theorem dX12_chance_77 : decode cX12_chance 77 = .ok (.invokevirtual 491, 3) := by decide +kernel
theorem dX12_chance_80 : decode cX12_chance 80 = .ok (.pop, 1) := by decide +kernel
theorem dX12_chance_81 : decode cX12_chance 81 = .ok (.iinc 3 1, 3) := by decide +kernel
theorem dX12_chance_84 : decode cX12_chance 84 = .ok (.goto (-59), 3) := by decide +kernel
theorem dX12_chance_87 : decode cX12_chance 87 = .ok (.iload_n 2, 1) := by decide +kernel
theorem dX12_chance_88 : decode cX12_chance 88 = .ok (.ireturn, 1) := by decide +kernel
theorem dX12_show_0 : decode cX12_show 0 = .ok (.iload_n 1, 1) := by decide +kernel
theorem dX12_show_1 : decode cX12_show 1 = .ok (.iconst 1, 1) := by decide +kernel
theorem dX12_show_2 : decode cX12_show 2 = .ok (.bipush 8, 2) := by decide +kernel
theorem dX12_show_4 : decode cX12_show 4 = .ok (.invokestatic 300, 3) := by decide +kernel
theorem dX12_show_7 : decode cX12_show 7 = .ok (.ifCond .eq 43, 3) := by decide +kernel
theorem dX12_show_10 : decode cX12_show 10 = .ok (.aload_n 0, 1) := by decide +kernel
theorem dX12_show_11 : decode cX12_show 11 = .ok (.iload_n 2, 1) := by decide +kernel
theorem dX12_show_12 : decode cX12_show 12 = .ok (.invokevirtual 470, 3) := by decide +kernel
theorem dX12_show_15 : decode cX12_show 15 = .ok (.ifCond .eq 35, 3) := by decide +kernel
theorem dX12_show_18 : decode cX12_show 18 = .ok (.iload_n 3, 1) := by decide +kernel
theorem dX12_show_19 : decode cX12_show 19 = .ok (.iconst 0, 1) := by decide +kernel
theorem dX12_show_20 : decode cX12_show 20 = .ok (.bipush 6, 2) := by decide +kernel
theorem dX12_show_22 : decode cX12_show 22 = .ok (.invokestatic 300, 3) := by decide +kernel
theorem dX12_show_25 : decode cX12_show 25 = .ok (.ifCond .eq 25, 3) := by decide +kernel
theorem dX12_show_28 : decode cX12_show 28 = .ok (.aload_n 0, 1) := by decide +kernel
theorem dX12_show_29 : decode cX12_show 29 = .ok (.getfield 165, 3) := by decide +kernel
theorem dX12_show_32 : decode cX12_show 32 = .ok (.iconst 0, 1) := by decide +kernel
theorem dX12_show_33 : decode cX12_show 33 = .ok (.iaload, 1) := by decide +kernel
theorem dX12_show_34 : decode cX12_show 34 = .ok (.bipush 8, 2) := by decide +kernel
theorem dX12_show_36 : decode cX12_show 36 = .ok (.if_icmp .eq 14, 3) := by decide +kernel
theorem dX12_show_39 : decode cX12_show 39 = .ok (.aload_n 0, 1) := by decide +kernel
theorem dX12_show_40 : decode cX12_show 40 = .ok (.iconst 0, 1) := by decide +kernel
theorem dX12_show_41 : decode cX12_show 41 = .ok (.iload_n 1, 1) := by decide +kernel
theorem dX12_show_42 : decode cX12_show 42 = .ok (.iload_n 2, 1) := by decide +kernel
theorem dX12_show_43 : decode cX12_show 43 = .ok (.invokevirtual 479, 3) := by decide +kernel
theorem dX12_show_46 : decode cX12_show 46 = .ok (.iconst (-1), 1) := by decide +kernel
theorem dX12_show_47 : decode cX12_show 47 = .ok (.if_icmp .eq 17, 3) := by decide +kernel
theorem dX12_show_50 : decode cX12_show 50 = .ok (.aload_n 0, 1) := by decide +kernel
theorem dX12_show_51 : decode cX12_show 51 = .ok (.iconst 3, 1) := by decide +kernel
theorem dX12_show_52 : decode cX12_show 52 = .ok (.invokevirtual 216, 3) := by decide +kernel
theorem dX12_show_55 : decode cX12_show 55 = .ok (.ifCond .lt 7, 3) := by decide +kernel
theorem dX12_show_58 : decode cX12_show 58 = .ok (.iconst 1, 1) := by decide +kernel
theorem dX12_show_59 : decode cX12_show 59 = .ok (.goto 4, 3) := by decide +kernel
theorem dX12_show_62 : decode cX12_show 62 = .ok (.iconst 0, 1) := by decide +kernel
theorem dX12_show_63 : decode cX12_show 63 = .ok (.ireturn, 1) := by decide +kernel
theorem dX12_show_64 : decode cX12_show 64 = .ok (.aload_n 0, 1) := by decide +kernel
theorem dX12_show_65 : decode cX12_show 65 = .ok (.invokevirtual 503, 3) := by decide +kernel
theorem dX12_show_68 : decode cX12_show 68 = .ok (.aload_n 0, 1) := by decide +kernel
theorem dX12_show_69 : decode cX12_show 69 = .ok (.iconst 0, 1) := by decide +kernel
theorem dX12_show_70 : decode cX12_show 70 = .ok (.iload_n 1, 1) := by decide +kernel
theorem dX12_show_71 : decode cX12_show 71 = .ok (.iload_n 2, 1) := by decide +kernel
theorem dX12_show_72 : decode cX12_show 72 = .ok (.iload_n 3, 1) := by decide +kernel
theorem dX12_show_73 : decode cX12_show 73 = .ok (.invokevirtual 482, 3) := by decide +kernel
theorem dX12_show_76 : decode cX12_show 76 = .ok (.iconst 1, 1) := by decide +kernel
theorem dX12_show_77 : decode cX12_show 77 = .ok (.ireturn, 1) := by decide +kernel
theorem dX12_cut_0 : decode cX12_cut 0 = .ok (.iload_n 1, 1) := by decide +kernel
theorem dX12_cut_1 : decode cX12_cut 1 = .ok (.iconst 0, 1) := by decide +kernel
theorem dX12_cut_2 : decode cX12_cut 2 = .ok (.aload_n 0, 1) := by decide +kernel
theorem dX12_cut_3 : decode cX12_cut 3 = .ok (.getfield 165, 3) := by decide +kernel
theorem dX12_cut_6 : decode cX12_cut 6 = .ok (.iconst 0, 1) := by decide +kernel
theorem dX12_cut_7 : decode cX12_cut 7 = .ok (.iaload, 1) := by decide +kernel
theorem dX12_cut_8 : decode cX12_cut 8 = .ok (.iconst 1, 1) := by decide +kernel
theorem dX12_cut_9 : decode cX12_cut 9 = .ok (.isub, 1) := by decide +kernel
theorem dX12_cut_10 : decode cX12_cut 10 = .ok (.invokestatic 300, 3) := by decide +kernel
theorem dX12_cut_13 : decode cX12_cut 13 = .ok (.ifCond .ne 17, 3) := by decide +kernel
theorem dX12_cut_16 : decode cX12_cut 16 = .ok (.aload_n 0, 1) := by decide +kernel
theorem dX12_cut_17 : decode cX12_cut 17 = .ok (.iconst 3, 1) := by decide +kernel
theorem dX12_cut_18 : decode cX12_cut 18 = .ok (.invokevirtual 216, 3) := by decide +kernel
theorem dX12_cut_21 : decode cX12_cut 21 = .ok (.ifCond .lt 7, 3) := by decide +kernel
theorem dX12_cut_24 : decode cX12_cut 24 = .ok (.iconst 1, 1) := by decide +kernel
theorem dX12_cut_25 : decode cX12_cut 25 = .ok (.goto 4, 3) := by decide +kernel
theorem dX12_cut_28 : decode cX12_cut 28 = .ok (.iconst 0, 1) := by decide +kernel
theorem dX12_cut_29 : decode cX12_cut 29 = .ok (.ireturn, 1) := by decide +kernel
theorem dX12_cut_30 : decode cX12_cut 30 = .ok (.aload_n 0, 1) := by decide +kernel
theorem dX12_cut_31 : decode cX12_cut 31 = .ok (.invokevirtual 503, 3) := by decide +kernel
theorem dX12_cut_34 : decode cX12_cut 34 = .ok (.aload_n 0, 1) := by decide +kernel
theorem dX12_cut_35 : decode cX12_cut 35 = .ok (.iconst 0, 1) := by decide +kernel
theorem dX12_cut_36 : decode cX12_cut 36 = .ok (.iload_n 1, 1) := by decide +kernel
theorem dX12_cut_37 : decode cX12_cut 37 = .ok (.invokevirtual 485, 3) := by decide +kernel
theorem dX12_cut_40 : decode cX12_cut 40 = .ok (.iconst 1, 1) := by decide +kernel
theorem dX12_cut_41 : decode cX12_cut 41 = .ok (.ireturn, 1) := by decide +kernel
theorem dX12_watch_0 : decode cX12_watch 0 = .ok (.aload_n 0, 1) := by decide +kernel
theorem dX12_watch_1 : decode cX12_watch 1 = .ok (.iload_n 1, 1) := by decide +kernel
theorem dX12_watch_2 : decode cX12_watch 2 = .ok (.invokevirtual 473, 3) := by decide +kernel
theorem dX12_watch_5 : decode cX12_watch 5 = .ok (.ifCond .eq 35, 3) := by decide +kernel
theorem dX12_watch_8 : decode cX12_watch 8 = .ok (.iload_n 2, 1) := by decide +kernel
theorem dX12_watch_9 : decode cX12_watch 9 = .ok (.iconst 0, 1) := by decide +kernel
theorem dX12_watch_10 : decode cX12_watch 10 = .ok (.iconst 1, 1) := by decide +kernel
theorem dX12_watch_11 : decode cX12_watch 11 = .ok (.invokestatic 300, 3) := by decide +kernel
theorem dX12_watch_14 : decode cX12_watch 14 = .ok (.ifCond .eq 26, 3) := by decide +kernel
theorem dX12_watch_17 : decode cX12_watch 17 = .ok (.aload_n 0, 1) := by decide +kernel
theorem dX12_watch_18 : decode cX12_watch 18 = .ok (.getfield 162, 3) := by decide +kernel
theorem dX12_watch_21 : decode cX12_watch 21 = .ok (.iconst 0, 1) := by decide +kernel
theorem dX12_watch_22 : decode cX12_watch 22 = .ok (.iaload, 1) := by decide +kernel
theorem dX12_watch_23 : decode cX12_watch 23 = .ok (.iload_n 1, 1) := by decide +kernel
theorem dX12_watch_24 : decode cX12_watch 24 = .ok (.invokestatic 342, 3) := by decide +kernel
theorem dX12_watch_27 : decode cX12_watch 27 = .ok (.iload_n 2, 1) := by decide +kernel
theorem dX12_watch_28 : decode cX12_watch 28 = .ok (.iconst 1, 1) := by decide +kernel
theorem dX12_watch_29 : decode cX12_watch 29 = .ok (.if_icmp .ne 7, 3) := by decide +kernel
theorem dX12_watch_32 : decode cX12_watch 32 = .ok (.iconst 1, 1) := by decide +kernel
theorem dX12_watch_33 : decode cX12_watch 33 = .ok (.goto 4, 3) := by decide +kernel
theorem dX12_watch_36 : decode cX12_watch 36 = .ok (.iconst 0, 1) := by decide +kernel
theorem dX12_watch_37 : decode cX12_watch 37 = .ok (.if_icmp .ne 17, 3) := by decide +kernel
theorem dX12_watch_40 : decode cX12_watch 40 = .ok (.aload_n 0, 1) := by decide +kernel
theorem dX12_watch_41 : decode cX12_watch 41 = .ok (.iconst 3, 1) := by decide +kernel
theorem dX12_watch_42 : decode cX12_watch 42 = .ok (.invokevirtual 216, 3) := by decide +kernel
theorem dX12_watch_45 : decode cX12_watch 45 = .ok (.ifCond .lt 7, 3) := by decide +kernel
theorem dX12_watch_48 : decode cX12_watch 48 = .ok (.iconst 1, 1) := by decide +kernel
theorem dX12_watch_49 : decode cX12_watch 49 = .ok (.goto 4, 3) := by decide +kernel
theorem dX12_watch_52 : decode cX12_watch 52 = .ok (.iconst 0, 1) := by decide +kernel
theorem dX12_watch_53 : decode cX12_watch 53 = .ok (.ireturn, 1) := by decide +kernel
theorem dX12_watch_54 : decode cX12_watch 54 = .ok (.aload_n 0, 1) := by decide +kernel
theorem dX12_watch_55 : decode cX12_watch 55 = .ok (.invokevirtual 503, 3) := by decide +kernel
theorem dX12_watch_58 : decode cX12_watch 58 = .ok (.aload_n 0, 1) := by decide +kernel
theorem dX12_watch_59 : decode cX12_watch 59 = .ok (.getfield 162, 3) := by decide +kernel
theorem dX12_watch_62 : decode cX12_watch 62 = .ok (.iconst 0, 1) := by decide +kernel
theorem dX12_watch_63 : decode cX12_watch 63 = .ok (.dup2, 1) := by decide +kernel
theorem dX12_watch_64 : decode cX12_watch 64 = .ok (.iaload, 1) := by decide +kernel
theorem dX12_watch_65 : decode cX12_watch 65 = .ok (.iconst 1, 1) := by decide +kernel
theorem dX12_watch_66 : decode cX12_watch 66 = .ok (.iload_n 1, 1) := by decide +kernel
theorem dX12_watch_67 : decode cX12_watch 67 = .ok (.ishl, 1) := by decide +kernel
theorem dX12_watch_68 : decode cX12_watch 68 = .ok (.ixor, 1) := by decide +kernel
theorem dX12_watch_69 : decode cX12_watch 69 = .ok (.iastore, 1) := by decide +kernel
theorem dX12_watch_70 : decode cX12_watch 70 = .ok (.iconst 1, 1) := by decide +kernel
theorem dX12_watch_71 : decode cX12_watch 71 = .ok (.ireturn, 1) := by decide +kernel
theorem dX12_send_0 : decode cX12_send 0 = .ok (.aload_n 0, 1) := by decide +kernel
theorem dX12_send_1 : decode cX12_send 1 = .ok (.iload_n 1, 1) := by decide +kernel
theorem dX12_send_2 : decode cX12_send 2 = .ok (.invokevirtual 473, 3) := by decide +kernel
theorem dX12_send_5 : decode cX12_send 5 = .ok (.ifCond .eq 21, 3) := by decide +kernel
theorem dX12_send_8 : decode cX12_send 8 = .ok (.aload_n 0, 1) := by decide +kernel
theorem dX12_send_9 : decode cX12_send 9 = .ok (.iload_n 2, 1) := by decide +kernel
theorem dX12_send_10 : decode cX12_send 10 = .ok (.invokevirtual 470, 3) := by decide +kernel
theorem dX12_send_13 : decode cX12_send 13 = .ok (.ifCond .eq 13, 3) := by decide +kernel
theorem dX12_send_16 : decode cX12_send 16 = .ok (.aload_n 0, 1) := by decide +kernel
theorem dX12_send_17 : decode cX12_send 17 = .ok (.getfield 159, 3) := by decide +kernel
theorem dX12_send_20 : decode cX12_send 20 = .ok (.iload_n 1, 1) := by decide +kernel
theorem dX12_send_21 : decode cX12_send 21 = .ok (.iaload, 1) := by decide +kernel
theorem dX12_send_22 : decode cX12_send 22 = .ok (.iload_n 2, 1) := by decide +kernel
theorem dX12_send_23 : decode cX12_send 23 = .ok (.if_icmp .ne 17, 3) := by decide +kernel
theorem dX12_send_26 : decode cX12_send 26 = .ok (.aload_n 0, 1) := by decide +kernel
theorem dX12_send_27 : decode cX12_send 27 = .ok (.iconst 3, 1) := by decide +kernel
theorem dX12_send_28 : decode cX12_send 28 = .ok (.invokevirtual 216, 3) := by decide +kernel
theorem dX12_send_31 : decode cX12_send 31 = .ok (.ifCond .lt 7, 3) := by decide +kernel
theorem dX12_send_34 : decode cX12_send 34 = .ok (.iconst 1, 1) := by decide +kernel
theorem dX12_send_35 : decode cX12_send 35 = .ok (.goto 4, 3) := by decide +kernel
theorem dX12_send_38 : decode cX12_send 38 = .ok (.iconst 0, 1) := by decide +kernel
theorem dX12_send_39 : decode cX12_send 39 = .ok (.ireturn, 1) := by decide +kernel
theorem dX12_send_40 : decode cX12_send 40 = .ok (.aload_n 0, 1) := by decide +kernel
theorem dX12_send_41 : decode cX12_send 41 = .ok (.invokevirtual 503, 3) := by decide +kernel
theorem dX12_send_44 : decode cX12_send 44 = .ok (.aload_n 0, 1) := by decide +kernel
theorem dX12_send_45 : decode cX12_send 45 = .ok (.getfield 159, 3) := by decide +kernel
theorem dX12_send_48 : decode cX12_send 48 = .ok (.iload_n 1, 1) := by decide +kernel
theorem dX12_send_49 : decode cX12_send 49 = .ok (.iload_n 2, 1) := by decide +kernel
theorem dX12_send_50 : decode cX12_send 50 = .ok (.iastore, 1) := by decide +kernel
theorem dX12_send_51 : decode cX12_send 51 = .ok (.iconst 1, 1) := by decide +kernel
theorem dX12_send_52 : decode cX12_send 52 = .ok (.ireturn, 1) := by decide +kernel
theorem dX12_seed_0 : decode cX12_seed 0 = .ok (.iload_n 1, 1) := by decide +kernel
theorem dX12_seed_1 : decode cX12_seed 1 = .ok (.ifCond .ge 17, 3) := by decide +kernel
theorem dX12_seed_4 : decode cX12_seed 4 = .ok (.aload_n 0, 1) := by decide +kernel
theorem dX12_seed_5 : decode cX12_seed 5 = .ok (.iconst 5, 1) := by decide +kernel
theorem dX12_seed_6 : decode cX12_seed 6 = .ok (.invokevirtual 216, 3) := by decide +kernel
theorem dX12_seed_9 : decode cX12_seed 9 = .ok (.ifCond .lt 7, 3) := by decide +kernel
theorem dX12_seed_12 : decode cX12_seed 12 = .ok (.iconst 1, 1) := by decide +kernel
theorem dX12_seed_13 : decode cX12_seed 13 = .ok (.goto 4, 3) := by decide +kernel
theorem dX12_seed_16 : decode cX12_seed 16 = .ok (.iconst 0, 1) := by decide +kernel
theorem dX12_seed_17 : decode cX12_seed 17 = .ok (.ireturn, 1) := by decide +kernel
theorem dX12_seed_18 : decode cX12_seed 18 = .ok (.aload_n 0, 1) := by decide +kernel
theorem dX12_seed_19 : decode cX12_seed 19 = .ok (.iload_n 1, 1) := by decide +kernel
theorem dX12_seed_20 : decode cX12_seed 20 = .ok (.i2l, 1) := by decide +kernel
theorem dX12_seed_21 : decode cX12_seed 21 = .ok (.putfield 183, 3) := by decide +kernel
theorem dX12_seed_24 : decode cX12_seed 24 = .ok (.iconst 1, 1) := by decide +kernel
theorem dX12_seed_25 : decode cX12_seed 25 = .ok (.ireturn, 1) := by decide +kernel
theorem dX12_kept_0 : decode cX12_kept 0 = .ok (.iload_n 1, 1) := by decide +kernel
theorem dX12_kept_1 : decode cX12_kept 1 = .ok (.iconst 0, 1) := by decide +kernel
theorem dX12_kept_2 : decode cX12_kept 2 = .ok (.aload_n 0, 1) := by decide +kernel
theorem dX12_kept_3 : decode cX12_kept 3 = .ok (.getfield 171, 3) := by decide +kernel
theorem dX12_kept_6 : decode cX12_kept 6 = .ok (.iconst 0, 1) := by decide +kernel
theorem dX12_kept_7 : decode cX12_kept 7 = .ok (.iaload, 1) := by decide +kernel
theorem dX12_kept_8 : decode cX12_kept 8 = .ok (.iconst 1, 1) := by decide +kernel
theorem dX12_kept_9 : decode cX12_kept 9 = .ok (.isub, 1) := by decide +kernel
theorem dX12_kept_10 : decode cX12_kept 10 = .ok (.invokestatic 300, 3) := by decide +kernel
theorem dX12_kept_13 : decode cX12_kept 13 = .ok (.ifCond .eq 25, 3) := by decide +kernel
theorem dX12_kept_16 : decode cX12_kept 16 = .ok (.iload_n 2, 1) := by decide +kernel
theorem dX12_kept_17 : decode cX12_kept 17 = .ok (.iconst 0, 1) := by decide +kernel
theorem dX12_kept_18 : decode cX12_kept 18 = .ok (.iconst 2, 1) := by decide +kernel
theorem dX12_kept_19 : decode cX12_kept 19 = .ok (.invokestatic 300, 3) := by decide +kernel
theorem dX12_kept_22 : decode cX12_kept 22 = .ok (.ifCond .eq 16, 3) := by decide +kernel
theorem dX12_kept_25 : decode cX12_kept 25 = .ok (.aload_n 0, 1) := by decide +kernel
theorem dX12_kept_26 : decode cX12_kept 26 = .ok (.getfield 174, 3) := by decide +kernel
theorem dX12_kept_29 : decode cX12_kept 29 = .ok (.iconst 3, 1) := by decide +kernel
theorem dX12_kept_30 : decode cX12_kept 30 = .ok (.iload_n 1, 1) := by decide +kernel
theorem dX12_kept_31 : decode cX12_kept 31 = .ok (.imul, 1) := by decide +kernel
theorem dX12_kept_32 : decode cX12_kept 32 = .ok (.iload_n 2, 1) := by decide +kernel
theorem dX12_kept_33 : decode cX12_kept 33 = .ok (.iadd, 1) := by decide +kernel
theorem dX12_kept_34 : decode cX12_kept 34 = .ok (.iaload, 1) := by decide +kernel
theorem dX12_kept_35 : decode cX12_kept 35 = .ok (.goto 4, 3) := by decide +kernel
theorem dX12_kept_38 : decode cX12_kept 38 = .ok (.iconst (-1), 1) := by decide +kernel
theorem dX12_kept_39 : decode cX12_kept 39 = .ok (.ireturn, 1) := by decide +kernel
theorem dX12_writes_0 : decode cX12_writes 0 = .ok (.aload_n 0, 1) := by decide +kernel
theorem dX12_writes_1 : decode cX12_writes 1 = .ok (.getfield 210, 3) := by decide +kernel
theorem dX12_writes_4 : decode cX12_writes 4 = .ok (.aload_n 0, 1) := by decide +kernel
theorem dX12_writes_5 : decode cX12_writes 5 = .ok (.getfield 213, 3) := by decide +kernel
theorem dX12_writes_8 : decode cX12_writes 8 = .ok (.iload_n 1, 1) := by decide +kernel
theorem dX12_writes_9 : decode cX12_writes 9 = .ok (.sipush 255, 3) := by decide +kernel
theorem dX12_writes_12 : decode cX12_writes 12 = .ok (.iand, 1) := by decide +kernel
theorem dX12_writes_13 : decode cX12_writes 13 = .ok (.iastore, 1) := by decide +kernel
theorem dX12_writes_14 : decode cX12_writes 14 = .ok (.aload_n 0, 1) := by decide +kernel
theorem dX12_writes_15 : decode cX12_writes 15 = .ok (.dup, 1) := by decide +kernel
theorem dX12_writes_16 : decode cX12_writes 16 = .ok (.getfield 213, 3) := by decide +kernel
theorem dX12_writes_19 : decode cX12_writes 19 = .ok (.iconst 1, 1) := by decide +kernel
theorem dX12_writes_20 : decode cX12_writes 20 = .ok (.iadd, 1) := by decide +kernel
theorem dX12_writes_21 : decode cX12_writes 21 = .ok (.putfield 213, 3) := by decide +kernel
theorem dX12_writes_24 : decode cX12_writes 24 = .ok (.return_, 1) := by decide +kernel
theorem dX12_image_0 : decode cX12_image 0 = .ok (.aload_n 0, 1) := by decide +kernel
theorem dX12_image_1 : decode cX12_image 1 = .ok (.iconst 0, 1) := by decide +kernel
theorem dX12_image_2 : decode cX12_image 2 = .ok (.putfield 213, 3) := by decide +kernel
theorem dX12_image_5 : decode cX12_image 5 = .ok (.aload_n 0, 1) := by decide +kernel
theorem dX12_image_6 : decode cX12_image 6 = .ok (.aload_n 0, 1) := by decide +kernel
theorem dX12_image_7 : decode cX12_image 7 = .ok (.getfield 156, 3) := by decide +kernel
theorem dX12_image_10 : decode cX12_image 10 = .ok (.iconst 0, 1) := by decide +kernel
theorem dX12_image_11 : decode cX12_image 11 = .ok (.iaload, 1) := by decide +kernel
theorem dX12_image_12 : decode cX12_image 12 = .ok (.bipush 8, 2) := by decide +kernel
theorem dX12_image_14 : decode cX12_image 14 = .ok (.ishr, 1) := by decide +kernel
theorem dX12_image_15 : decode cX12_image 15 = .ok (.invokevirtual 517, 3) := by decide +kernel
theorem dX12_image_18 : decode cX12_image 18 = .ok (.aload_n 0, 1) := by decide +kernel
theorem dX12_image_19 : decode cX12_image 19 = .ok (.aload_n 0, 1) := by decide +kernel
theorem dX12_image_20 : decode cX12_image 20 = .ok (.getfield 156, 3) := by decide +kernel
theorem dX12_image_23 : decode cX12_image 23 = .ok (.iconst 0, 1) := by decide +kernel
theorem dX12_image_24 : decode cX12_image 24 = .ok (.iaload, 1) := by decide +kernel
theorem dX12_image_25 : decode cX12_image 25 = .ok (.invokevirtual 517, 3) := by decide +kernel
theorem dX12_image_28 : decode cX12_image 28 = .ok (.iconst 0, 1) := by decide +kernel
theorem dX12_image_29 : decode cX12_image 29 = .ok (.istore_n 1, 1) := by decide +kernel
theorem dX12_image_30 : decode cX12_image 30 = .ok (.iload_n 1, 1) := by decide +kernel
theorem dX12_image_31 : decode cX12_image 31 = .ok (.aload_n 0, 1) := by decide +kernel
theorem dX12_image_32 : decode cX12_image 32 = .ok (.getfield 66, 3) := by decide +kernel
theorem dX12_image_35 : decode cX12_image 35 = .ok (.aload_n 0, 1) := by decide +kernel
theorem dX12_image_36 : decode cX12_image 36 = .ok (.getfield 51, 3) := by decide +kernel
theorem dX12_image_39 : decode cX12_image 39 = .ok (.iaload, 1) := by decide +kernel
theorem dX12_image_40 : decode cX12_image 40 = .ok (.if_icmp .ge 41, 3) := by decide +kernel
theorem dX12_image_43 : decode cX12_image 43 = .ok (.aload_n 0, 1) := by decide +kernel
theorem dX12_image_44 : decode cX12_image 44 = .ok (.aload_n 0, 1) := by decide +kernel
theorem dX12_image_45 : decode cX12_image 45 = .ok (.getfield 159, 3) := by decide +kernel
theorem dX12_image_48 : decode cX12_image 48 = .ok (.iload_n 1, 1) := by decide +kernel
theorem dX12_image_49 : decode cX12_image 49 = .ok (.iaload, 1) := by decide +kernel
theorem dX12_image_50 : decode cX12_image 50 = .ok (.invokevirtual 517, 3) := by decide +kernel
theorem dX12_image_53 : decode cX12_image 53 = .ok (.aload_n 0, 1) := by decide +kernel
theorem dX12_image_54 : decode cX12_image 54 = .ok (.aload_n 0, 1) := by decide +kernel
theorem dX12_image_55 : decode cX12_image 55 = .ok (.getfield 162, 3) := by decide +kernel
theorem dX12_image_58 : decode cX12_image 58 = .ok (.iconst 0, 1) := by decide +kernel
theorem dX12_image_59 : decode cX12_image 59 = .ok (.iaload, 1) := by decide +kernel
theorem dX12_image_60 : decode cX12_image 60 = .ok (.iload_n 1, 1) := by decide +kernel
theorem dX12_image_61 : decode cX12_image 61 = .ok (.invokestatic 342, 3) := by decide +kernel
theorem dX12_image_64 : decode cX12_image 64 = .ok (.ifCond .eq 7, 3) := by decide +kernel
theorem dX12_image_67 : decode cX12_image 67 = .ok (.iconst 1, 1) := by decide +kernel
theorem dX12_image_68 : decode cX12_image 68 = .ok (.goto 4, 3) := by decide +kernel
theorem dX12_image_71 : decode cX12_image 71 = .ok (.iconst 0, 1) := by decide +kernel
theorem dX12_image_72 : decode cX12_image 72 = .ok (.invokevirtual 517, 3) := by decide +kernel
theorem dX12_image_75 : decode cX12_image 75 = .ok (.iinc 1 1, 3) := by decide +kernel
theorem dX12_image_78 : decode cX12_image 78 = .ok (.goto (-48), 3) := by decide +kernel
theorem dX12_image_81 : decode cX12_image 81 = .ok (.aload_n 0, 1) := by decide +kernel
theorem dX12_image_82 : decode cX12_image 82 = .ok (.aload_n 0, 1) := by decide +kernel
theorem dX12_image_83 : decode cX12_image 83 = .ok (.getfield 165, 3) := by decide +kernel
theorem dX12_image_86 : decode cX12_image 86 = .ok (.iconst 0, 1) := by decide +kernel
theorem dX12_image_87 : decode cX12_image 87 = .ok (.iaload, 1) := by decide +kernel
theorem dX12_image_88 : decode cX12_image 88 = .ok (.invokevirtual 517, 3) := by decide +kernel
theorem dX12_image_91 : decode cX12_image 91 = .ok (.iconst 0, 1) := by decide +kernel
theorem dX12_image_92 : decode cX12_image 92 = .ok (.istore_n 1, 1) := by decide +kernel
theorem dX12_image_93 : decode cX12_image 93 = .ok (.iload_n 1, 1) := by decide +kernel
theorem dX12_image_94 : decode cX12_image 94 = .ok (.iconst 3, 1) := by decide +kernel
theorem dX12_image_95 : decode cX12_image 95 = .ok (.aload_n 0, 1) := by decide +kernel
theorem dX12_image_96 : decode cX12_image 96 = .ok (.getfield 165, 3) := by decide +kernel
theorem dX12_image_99 : decode cX12_image 99 = .ok (.iconst 0, 1) := by decide +kernel
theorem dX12_image_100 : decode cX12_image 100 = .ok (.iaload, 1) := by decide +kernel
theorem dX12_image_101 : decode cX12_image 101 = .ok (.imul, 1) := by decide +kernel
theorem dX12_image_102 : decode cX12_image 102 = .ok (.if_icmp .ge 19, 3) := by decide +kernel
theorem dX12_image_105 : decode cX12_image 105 = .ok (.aload_n 0, 1) := by decide +kernel
theorem dX12_image_106 : decode cX12_image 106 = .ok (.aload_n 0, 1) := by decide +kernel
theorem dX12_image_107 : decode cX12_image 107 = .ok (.getfield 168, 3) := by decide +kernel
theorem dX12_image_110 : decode cX12_image 110 = .ok (.iload_n 1, 1) := by decide +kernel
theorem dX12_image_111 : decode cX12_image 111 = .ok (.iaload, 1) := by decide +kernel
theorem dX12_image_112 : decode cX12_image 112 = .ok (.invokevirtual 517, 3) := by decide +kernel
theorem dX12_image_115 : decode cX12_image 115 = .ok (.iinc 1 1, 3) := by decide +kernel
theorem dX12_image_118 : decode cX12_image 118 = .ok (.goto (-25), 3) := by decide +kernel
theorem dX12_image_121 : decode cX12_image 121 = .ok (.sipush 193, 3) := by decide +kernel
theorem dX12_image_124 : decode cX12_image 124 = .ok (.istore_n 1, 1) := by decide +kernel
theorem dX12_image_125 : decode cX12_image 125 = .ok (.iconst 0, 1) := by decide +kernel
theorem dX12_image_126 : decode cX12_image 126 = .ok (.istore_n 2, 1) := by decide +kernel
theorem dX12_image_127 : decode cX12_image 127 = .ok (.iload_n 2, 1) := by decide +kernel
theorem dX12_image_128 : decode cX12_image 128 = .ok (.aload_n 0, 1) := by decide +kernel
theorem dX12_image_129 : decode cX12_image 129 = .ok (.getfield 213, 3) := by decide +kernel
theorem dX12_image_132 : decode cX12_image 132 = .ok (.if_icmp .ge 24, 3) := by decide +kernel
theorem dX12_image_135 : decode cX12_image 135 = .ok (.iconst 5, 1) := by decide +kernel
theorem dX12_image_136 : decode cX12_image 136 = .ok (.iload_n 1, 1) := by decide +kernel
theorem dX12_image_137 : decode cX12_image 137 = .ok (.imul, 1) := by decide +kernel
theorem dX12_image_138 : decode cX12_image 138 = .ok (.aload_n 0, 1) := by decide +kernel
theorem dX12_image_139 : decode cX12_image 139 = .ok (.getfield 210, 3) := by decide +kernel
theorem dX12_image_142 : decode cX12_image 142 = .ok (.iload_n 2, 1) := by decide +kernel
theorem dX12_image_143 : decode cX12_image 143 = .ok (.iaload, 1) := by decide +kernel
theorem dX12_image_144 : decode cX12_image 144 = .ok (.iadd, 1) := by decide +kernel
theorem dX12_image_145 : decode cX12_image 145 = .ok (.sipush 251, 3) := by decide +kernel
theorem dX12_image_148 : decode cX12_image 148 = .ok (.irem, 1) := by decide +kernel
theorem dX12_image_149 : decode cX12_image 149 = .ok (.istore_n 1, 1) := by decide +kernel
theorem dX12_image_150 : decode cX12_image 150 = .ok (.iinc 2 1, 3) := by decide +kernel
theorem dX12_image_153 : decode cX12_image 153 = .ok (.goto (-26), 3) := by decide +kernel
theorem dX12_image_156 : decode cX12_image 156 = .ok (.aload_n 0, 1) := by decide +kernel
theorem dX12_image_157 : decode cX12_image 157 = .ok (.iload_n 1, 1) := by decide +kernel
theorem dX12_image_158 : decode cX12_image 158 = .ok (.invokevirtual 517, 3) := by decide +kernel
theorem dX12_image_161 : decode cX12_image 161 = .ok (.aload_n 0, 1) := by decide +kernel
theorem dX12_image_162 : decode cX12_image 162 = .ok (.getfield 213, 3) := by decide +kernel
theorem dX12_image_165 : decode cX12_image 165 = .ok (.ireturn, 1) := by decide +kernel
theorem dX12_octet_0 : decode cX12_octet 0 = .ok (.iload_n 1, 1) := by decide +kernel
theorem dX12_octet_1 : decode cX12_octet 1 = .ok (.iconst 0, 1) := by decide +kernel
theorem dX12_octet_2 : decode cX12_octet 2 = .ok (.aload_n 0, 1) := by decide +kernel
theorem dX12_octet_3 : decode cX12_octet 3 = .ok (.getfield 213, 3) := by decide +kernel
theorem dX12_octet_6 : decode cX12_octet 6 = .ok (.iconst 1, 1) := by decide +kernel
theorem dX12_octet_7 : decode cX12_octet 7 = .ok (.isub, 1) := by decide +kernel
theorem dX12_octet_8 : decode cX12_octet 8 = .ok (.invokestatic 300, 3) := by decide +kernel
theorem dX12_octet_11 : decode cX12_octet 11 = .ok (.ifCond .eq 12, 3) := by decide +kernel
theorem dX12_octet_14 : decode cX12_octet 14 = .ok (.aload_n 0, 1) := by decide +kernel
theorem dX12_octet_15 : decode cX12_octet 15 = .ok (.getfield 210, 3) := by decide +kernel
theorem dX12_octet_18 : decode cX12_octet 18 = .ok (.iload_n 1, 1) := by decide +kernel
theorem dX12_octet_19 : decode cX12_octet 19 = .ok (.iaload, 1) := by decide +kernel
theorem dX12_octet_20 : decode cX12_octet 20 = .ok (.goto 4, 3) := by decide +kernel
theorem dX12_octet_23 : decode cX12_octet 23 = .ok (.iconst (-1), 1) := by decide +kernel
theorem dX12_octet_24 : decode cX12_octet 24 = .ok (.ireturn, 1) := by decide +kernel
theorem dX12_comesOn_0 : decode cX12_comesOn 0 = .ok (.iconst 2, 1) := by decide +kernel
theorem dX12_comesOn_1 : decode cX12_comesOn 1 = .ok (.iconst 2, 1) := by decide +kernel
theorem dX12_comesOn_2 : decode cX12_comesOn 2 = .ok (.aload_n 0, 1) := by decide +kernel
theorem dX12_comesOn_3 : decode cX12_comesOn 3 = .ok (.getfield 66, 3) := by decide +kernel
theorem dX12_comesOn_6 : decode cX12_comesOn 6 = .ok (.aload_n 0, 1) := by decide +kernel
theorem dX12_comesOn_7 : decode cX12_comesOn 7 = .ok (.getfield 51, 3) := by decide +kernel
theorem dX12_comesOn_10 : decode cX12_comesOn 10 = .ok (.iaload, 1) := by decide +kernel
theorem dX12_comesOn_11 : decode cX12_comesOn 11 = .ok (.imul, 1) := by decide +kernel
theorem dX12_comesOn_12 : decode cX12_comesOn 12 = .ok (.iadd, 1) := by decide +kernel
theorem dX12_comesOn_13 : decode cX12_comesOn 13 = .ok (.istore_n 2, 1) := by decide +kernel
theorem dX12_comesOn_14 : decode cX12_comesOn 14 = .ok (.iload_n 1, 1) := by decide +kernel
theorem dX12_comesOn_15 : decode cX12_comesOn 15 = .ok (.iload_n 2, 1) := by decide +kernel
theorem dX12_comesOn_16 : decode cX12_comesOn 16 = .ok (.if_icmp .le 52, 3) := by decide +kernel
theorem dX12_comesOn_19 : decode cX12_comesOn 19 = .ok (.aload_n 0, 1) := by decide +kernel
theorem dX12_comesOn_20 : decode cX12_comesOn 20 = .ok (.getfield 7, 3) := by decide +kernel
theorem dX12_comesOn_23 : decode cX12_comesOn 23 = .ok (.iload_n 2, 1) := by decide +kernel
theorem dX12_comesOn_24 : decode cX12_comesOn 24 = .ok (.iaload, 1) := by decide +kernel
theorem dX12_comesOn_25 : decode cX12_comesOn 25 = .ok (.bipush 8, 2) := by decide +kernel
theorem dX12_comesOn_27 : decode cX12_comesOn 27 = .ok (.if_icmp .gt 41, 3) := by decide +kernel
theorem dX12_comesOn_30 : decode cX12_comesOn 30 = .ok (.iload_n 1, 1) := by decide +kernel
theorem dX12_comesOn_31 : decode cX12_comesOn 31 = .ok (.iload_n 2, 1) := by decide +kernel
theorem dX12_comesOn_32 : decode cX12_comesOn 32 = .ok (.iconst 2, 1) := by decide +kernel
theorem dX12_comesOn_33 : decode cX12_comesOn 33 = .ok (.iadd, 1) := by decide +kernel
theorem dX12_comesOn_34 : decode cX12_comesOn 34 = .ok (.iconst 3, 1) := by decide +kernel
theorem dX12_comesOn_35 : decode cX12_comesOn 35 = .ok (.aload_n 0, 1) := by decide +kernel
theorem dX12_comesOn_36 : decode cX12_comesOn 36 = .ok (.getfield 7, 3) := by decide +kernel
theorem dX12_comesOn_39 : decode cX12_comesOn 39 = .ok (.iload_n 2, 1) := by decide +kernel
theorem dX12_comesOn_40 : decode cX12_comesOn 40 = .ok (.iaload, 1) := by decide +kernel
theorem dX12_comesOn_41 : decode cX12_comesOn 41 = .ok (.imul, 1) := by decide +kernel
theorem dX12_comesOn_42 : decode cX12_comesOn 42 = .ok (.iadd, 1) := by decide +kernel
theorem dX12_comesOn_43 : decode cX12_comesOn 43 = .ok (.if_icmp .ne 25, 3) := by decide +kernel
theorem dX12_comesOn_46 : decode cX12_comesOn 46 = .ok (.aload_n 0, 1) := by decide +kernel
theorem dX12_comesOn_47 : decode cX12_comesOn 47 = .ok (.getfield 7, 3) := by decide +kernel
theorem dX12_comesOn_50 : decode cX12_comesOn 50 = .ok (.iconst 0, 1) := by decide +kernel
theorem dX12_comesOn_51 : decode cX12_comesOn 51 = .ok (.iaload, 1) := by decide +kernel
theorem dX12_comesOn_52 : decode cX12_comesOn 52 = .ok (.bipush 8, 2) := by decide +kernel
theorem dX12_comesOn_54 : decode cX12_comesOn 54 = .ok (.ishl, 1) := by decide +kernel
theorem dX12_comesOn_55 : decode cX12_comesOn 55 = .ok (.aload_n 0, 1) := by decide +kernel
theorem dX12_comesOn_56 : decode cX12_comesOn 56 = .ok (.getfield 7, 3) := by decide +kernel
theorem dX12_comesOn_59 : decode cX12_comesOn 59 = .ok (.iconst 1, 1) := by decide +kernel
theorem dX12_comesOn_60 : decode cX12_comesOn 60 = .ok (.iaload, 1) := by decide +kernel
theorem dX12_comesOn_61 : decode cX12_comesOn 61 = .ok (.ior, 1) := by decide +kernel
theorem dX12_comesOn_62 : decode cX12_comesOn 62 = .ok (.sipush 999, 3) := by decide +kernel
theorem dX12_comesOn_65 : decode cX12_comesOn 65 = .ok (.if_icmp .le 5, 3) := by decide +kernel
theorem dX12_comesOn_68 : decode cX12_comesOn 68 = .ok (.iconst 0, 1) := by decide +kernel
theorem dX12_comesOn_69 : decode cX12_comesOn 69 = .ok (.ireturn, 1) := by decide +kernel
theorem dX12_comesOn_70 : decode cX12_comesOn 70 = .ok (.sipush 193, 3) := by decide +kernel
theorem dX12_comesOn_73 : decode cX12_comesOn 73 = .ok (.istore_n 3, 1) := by decide +kernel
theorem dX12_comesOn_74 : decode cX12_comesOn 74 = .ok (.iconst 0, 1) := by decide +kernel
theorem dX12_comesOn_75 : decode cX12_comesOn 75 = .ok (.istore 4, 2) := by decide +kernel
theorem dX12_comesOn_77 : decode cX12_comesOn 77 = .ok (.iload 4, 2) := by decide +kernel
theorem dX12_comesOn_79 : decode cX12_comesOn 79 = .ok (.iload_n 1, 1) := by decide +kernel
theorem dX12_comesOn_80 : decode cX12_comesOn 80 = .ok (.iconst 1, 1) := by decide +kernel
theorem dX12_comesOn_81 : decode cX12_comesOn 81 = .ok (.isub, 1) := by decide +kernel
theorem dX12_comesOn_82 : decode cX12_comesOn 82 = .ok (.if_icmp .ge 25, 3) := by decide +kernel
theorem dX12_comesOn_85 : decode cX12_comesOn 85 = .ok (.iconst 5, 1) := by decide +kernel
theorem dX12_comesOn_86 : decode cX12_comesOn 86 = .ok (.iload_n 3, 1) := by decide +kernel
theorem dX12_comesOn_87 : decode cX12_comesOn 87 = .ok (.imul, 1) := by decide +kernel
theorem dX12_comesOn_88 : decode cX12_comesOn 88 = .ok (.aload_n 0, 1) := by decide +kernel
theorem dX12_comesOn_89 : decode cX12_comesOn 89 = .ok (.getfield 7, 3) := by decide +kernel
theorem dX12_comesOn_92 : decode cX12_comesOn 92 = .ok (.iload 4, 2) := by decide +kernel
theorem dX12_comesOn_94 : decode cX12_comesOn 94 = .ok (.iaload, 1) := by decide +kernel
theorem dX12_comesOn_95 : decode cX12_comesOn 95 = .ok (.iadd, 1) := by decide +kernel
theorem dX12_comesOn_96 : decode cX12_comesOn 96 = .ok (.sipush 251, 3) := by decide +kernel
theorem dX12_comesOn_99 : decode cX12_comesOn 99 = .ok (.irem, 1) := by decide +kernel
theorem dX12_comesOn_100 : decode cX12_comesOn 100 = .ok (.istore_n 3, 1) := by decide +kernel
theorem dX12_comesOn_101 : decode cX12_comesOn 101 = .ok (.iinc 4 1, 3) := by decide +kernel
theorem dX12_comesOn_104 : decode cX12_comesOn 104 = .ok (.goto (-27), 3) := by decide +kernel
theorem dX12_comesOn_107 : decode cX12_comesOn 107 = .ok (.aload_n 0, 1) := by decide +kernel
theorem dX12_comesOn_108 : decode cX12_comesOn 108 = .ok (.getfield 7, 3) := by decide +kernel
theorem dX12_comesOn_111 : decode cX12_comesOn 111 = .ok (.iload_n 1, 1) := by decide +kernel
theorem dX12_comesOn_112 : decode cX12_comesOn 112 = .ok (.iconst 1, 1) := by decide +kernel
theorem dX12_comesOn_113 : decode cX12_comesOn 113 = .ok (.isub, 1) := by decide +kernel
theorem dX12_comesOn_114 : decode cX12_comesOn 114 = .ok (.iaload, 1) := by decide +kernel
theorem dX12_comesOn_115 : decode cX12_comesOn 115 = .ok (.iload_n 3, 1) := by decide +kernel
theorem dX12_comesOn_116 : decode cX12_comesOn 116 = .ok (.if_icmp .eq 5, 3) := by decide +kernel
theorem dX12_comesOn_119 : decode cX12_comesOn 119 = .ok (.iconst 0, 1) := by decide +kernel
theorem dX12_comesOn_120 : decode cX12_comesOn 120 = .ok (.ireturn, 1) := by decide +kernel
theorem dX12_comesOn_121 : decode cX12_comesOn 121 = .ok (.aload_n 0, 1) := by decide +kernel
theorem dX12_comesOn_122 : decode cX12_comesOn 122 = .ok (.iconst 1, 1) := by decide +kernel
theorem dX12_comesOn_123 : decode cX12_comesOn 123 = .ok (.iconst 0, 1) := by decide +kernel
theorem dX12_comesOn_124 : decode cX12_comesOn 124 = .ok (.invokevirtual 411, 3) := by decide +kernel
theorem dX12_comesOn_127 : decode cX12_comesOn 127 = .ok (.aload_n 0, 1) := by decide +kernel
theorem dX12_comesOn_128 : decode cX12_comesOn 128 = .ok (.getfield 156, 3) := by decide +kernel
theorem dX12_comesOn_131 : decode cX12_comesOn 131 = .ok (.iconst 1, 1) := by decide +kernel
theorem dX12_comesOn_132 : decode cX12_comesOn 132 = .ok (.aload_n 0, 1) := by decide +kernel
theorem dX12_comesOn_133 : decode cX12_comesOn 133 = .ok (.getfield 7, 3) := by decide +kernel
theorem dX12_comesOn_136 : decode cX12_comesOn 136 = .ok (.iconst 0, 1) := by decide +kernel
theorem dX12_comesOn_137 : decode cX12_comesOn 137 = .ok (.iaload, 1) := by decide +kernel
theorem dX12_comesOn_138 : decode cX12_comesOn 138 = .ok (.bipush 8, 2) := by decide +kernel
theorem dX12_comesOn_140 : decode cX12_comesOn 140 = .ok (.ishl, 1) := by decide +kernel
theorem dX12_comesOn_141 : decode cX12_comesOn 141 = .ok (.aload_n 0, 1) := by decide +kernel
theorem dX12_comesOn_142 : decode cX12_comesOn 142 = .ok (.getfield 7, 3) := by decide +kernel
theorem dX12_comesOn_145 : decode cX12_comesOn 145 = .ok (.iconst 1, 1) := by decide +kernel
theorem dX12_comesOn_146 : decode cX12_comesOn 146 = .ok (.iaload, 1) := by decide +kernel
theorem dX12_comesOn_147 : decode cX12_comesOn 147 = .ok (.ior, 1) := by decide +kernel
theorem dX12_comesOn_148 : decode cX12_comesOn 148 = .ok (.iastore, 1) := by decide +kernel
theorem dX12_comesOn_149 : decode cX12_comesOn 149 = .ok (.aload_n 0, 1) := by decide +kernel
theorem dX12_comesOn_150 : decode cX12_comesOn 150 = .ok (.getfield 162, 3) := by decide +kernel
theorem dX12_comesOn_153 : decode cX12_comesOn 153 = .ok (.iconst 1, 1) := by decide +kernel
theorem dX12_comesOn_154 : decode cX12_comesOn 154 = .ok (.iconst 0, 1) := by decide +kernel
theorem dX12_comesOn_155 : decode cX12_comesOn 155 = .ok (.iastore, 1) := by decide +kernel
theorem dX12_comesOn_156 : decode cX12_comesOn 156 = .ok (.aload_n 0, 1) := by decide +kernel
theorem dX12_comesOn_157 : decode cX12_comesOn 157 = .ok (.getfield 165, 3) := by decide +kernel
theorem dX12_comesOn_160 : decode cX12_comesOn 160 = .ok (.iconst 1, 1) := by decide +kernel
theorem dX12_comesOn_161 : decode cX12_comesOn 161 = .ok (.iconst 0, 1) := by decide +kernel
theorem dX12_comesOn_162 : decode cX12_comesOn 162 = .ok (.iastore, 1) := by decide +kernel
theorem dX12_comesOn_163 : decode cX12_comesOn 163 = .ok (.aload_n 0, 1) := by decide +kernel
theorem dX12_comesOn_164 : decode cX12_comesOn 164 = .ok (.getfield 171, 3) := by decide +kernel
theorem dX12_comesOn_167 : decode cX12_comesOn 167 = .ok (.iconst 1, 1) := by decide +kernel
theorem dX12_comesOn_168 : decode cX12_comesOn 168 = .ok (.iconst 0, 1) := by decide +kernel
theorem dX12_comesOn_169 : decode cX12_comesOn 169 = .ok (.iastore, 1) := by decide +kernel
theorem dX12_comesOn_170 : decode cX12_comesOn 170 = .ok (.iconst 0, 1) := by decide +kernel
theorem dX12_comesOn_171 : decode cX12_comesOn 171 = .ok (.istore 4, 2) := by decide +kernel
theorem dX12_comesOn_173 : decode cX12_comesOn 173 = .ok (.iload 4, 2) := by decide +kernel
theorem dX12_comesOn_175 : decode cX12_comesOn 175 = .ok (.aload_n 0, 1) := by decide +kernel
theorem dX12_comesOn_176 : decode cX12_comesOn 176 = .ok (.getfield 66, 3) := by decide +kernel
theorem dX12_comesOn_179 : decode cX12_comesOn 179 = .ok (.aload_n 0, 1) := by decide +kernel
theorem dX12_comesOn_180 : decode cX12_comesOn 180 = .ok (.getfield 51, 3) := by decide +kernel
theorem dX12_comesOn_183 : decode cX12_comesOn 183 = .ok (.iaload, 1) := by decide +kernel
theorem dX12_comesOn_184 : decode cX12_comesOn 184 = .ok (.if_icmp .ge 88, 3) := by decide +kernel
theorem dX12_comesOn_187 : decode cX12_comesOn 187 = .ok (.aload_n 0, 1) := by decide +kernel
theorem dX12_comesOn_188 : decode cX12_comesOn 188 = .ok (.aload_n 0, 1) := by decide +kernel
theorem dX12_comesOn_189 : decode cX12_comesOn 189 = .ok (.getfield 7, 3) := by decide +kernel
theorem dX12_comesOn_192 : decode cX12_comesOn 192 = .ok (.iconst 2, 1) := by decide +kernel
theorem dX12_comesOn_193 : decode cX12_comesOn 193 = .ok (.iconst 2, 1) := by decide +kernel
theorem dX12_comesOn_194 : decode cX12_comesOn 194 = .ok (.iload 4, 2) := by decide +kernel
theorem dX12_comesOn_196 : decode cX12_comesOn 196 = .ok (.imul, 1) := by decide +kernel
theorem dX12_comesOn_197 : decode cX12_comesOn 197 = .ok (.iadd, 1) := by decide +kernel
theorem dX12_comesOn_198 : decode cX12_comesOn 198 = .ok (.iaload, 1) := by decide +kernel
theorem dX12_comesOn_199 : decode cX12_comesOn 199 = .ok (.invokevirtual 470, 3) := by decide +kernel
theorem dX12_comesOn_202 : decode cX12_comesOn 202 = .ok (.ifCond .eq 18, 3) := by decide +kernel
theorem dX12_comesOn_205 : decode cX12_comesOn 205 = .ok (.aload_n 0, 1) := by decide +kernel
theorem dX12_comesOn_206 : decode cX12_comesOn 206 = .ok (.getfield 7, 3) := by decide +kernel
theorem dX12_comesOn_209 : decode cX12_comesOn 209 = .ok (.iconst 3, 1) := by decide +kernel
theorem dX12_comesOn_210 : decode cX12_comesOn 210 = .ok (.iconst 2, 1) := by decide +kernel
theorem dX12_comesOn_211 : decode cX12_comesOn 211 = .ok (.iload 4, 2) := by decide +kernel
theorem dX12_comesOn_213 : decode cX12_comesOn 213 = .ok (.imul, 1) := by decide +kernel
theorem dX12_comesOn_214 : decode cX12_comesOn 214 = .ok (.iadd, 1) := by decide +kernel
theorem dX12_comesOn_215 : decode cX12_comesOn 215 = .ok (.iaload, 1) := by decide +kernel
theorem dX12_comesOn_216 : decode cX12_comesOn 216 = .ok (.iconst 1, 1) := by decide +kernel
theorem dX12_comesOn_217 : decode cX12_comesOn 217 = .ok (.if_icmp .le 5, 3) := by decide +kernel
theorem dX12_comesOn_220 : decode cX12_comesOn 220 = .ok (.iconst 0, 1) := by decide +kernel
theorem dX12_comesOn_221 : decode cX12_comesOn 221 = .ok (.ireturn, 1) := by decide +kernel
theorem dX12_comesOn_222 : decode cX12_comesOn 222 = .ok (.aload_n 0, 1) := by decide +kernel
theorem dX12_comesOn_223 : decode cX12_comesOn 223 = .ok (.getfield 159, 3) := by decide +kernel
theorem dX12_comesOn_226 : decode cX12_comesOn 226 = .ok (.bipush 6, 2) := by decide +kernel
theorem dX12_comesOn_228 : decode cX12_comesOn 228 = .ok (.iload 4, 2) := by decide +kernel
theorem dX12_comesOn_230 : decode cX12_comesOn 230 = .ok (.iadd, 1) := by decide +kernel
theorem dX12_comesOn_231 : decode cX12_comesOn 231 = .ok (.aload_n 0, 1) := by decide +kernel
theorem dX12_comesOn_232 : decode cX12_comesOn 232 = .ok (.getfield 7, 3) := by decide +kernel
theorem dX12_comesOn_235 : decode cX12_comesOn 235 = .ok (.iconst 2, 1) := by decide +kernel
theorem dX12_comesOn_236 : decode cX12_comesOn 236 = .ok (.iconst 2, 1) := by decide +kernel
theorem dX12_comesOn_237 : decode cX12_comesOn 237 = .ok (.iload 4, 2) := by decide +kernel
theorem dX12_comesOn_239 : decode cX12_comesOn 239 = .ok (.imul, 1) := by decide +kernel
theorem dX12_comesOn_240 : decode cX12_comesOn 240 = .ok (.iadd, 1) := by decide +kernel
theorem dX12_comesOn_241 : decode cX12_comesOn 241 = .ok (.iaload, 1) := by decide +kernel
theorem dX12_comesOn_242 : decode cX12_comesOn 242 = .ok (.iastore, 1) := by decide +kernel
theorem dX12_comesOn_243 : decode cX12_comesOn 243 = .ok (.aload_n 0, 1) := by decide +kernel
theorem dX12_comesOn_244 : decode cX12_comesOn 244 = .ok (.getfield 162, 3) := by decide +kernel
theorem dX12_comesOn_247 : decode cX12_comesOn 247 = .ok (.iconst 1, 1) := by decide +kernel
theorem dX12_comesOn_248 : decode cX12_comesOn 248 = .ok (.dup2, 1) := by decide +kernel
theorem dX12_comesOn_249 : decode cX12_comesOn 249 = .ok (.iaload, 1) := by decide +kernel
theorem dX12_comesOn_250 : decode cX12_comesOn 250 = .ok (.aload_n 0, 1) := by decide +kernel
theorem dX12_comesOn_251 : decode cX12_comesOn 251 = .ok (.getfield 7, 3) := by decide +kernel
theorem dX12_comesOn_254 : decode cX12_comesOn 254 = .ok (.iconst 3, 1) := by decide +kernel
theorem dX12_comesOn_255 : decode cX12_comesOn 255 = .ok (.iconst 2, 1) := by decide +kernel
theorem dX12_comesOn_256 : decode cX12_comesOn 256 = .ok (.iload 4, 2) := by decide +kernel
theorem dX12_comesOn_258 : decode cX12_comesOn 258 = .ok (.imul, 1) := by decide +kernel
theorem dX12_comesOn_259 : decode cX12_comesOn 259 = .ok (.iadd, 1) := by decide +kernel
theorem dX12_comesOn_260 : decode cX12_comesOn 260 = .ok (.iaload, 1) := by decide +kernel
theorem dX12_comesOn_261 : decode cX12_comesOn 261 = .ok (.iload 4, 2) := by decide +kernel
theorem dX12_comesOn_263 : decode cX12_comesOn 263 = .ok (.ishl, 1) := by decide +kernel
theorem dX12_comesOn_264 : decode cX12_comesOn 264 = .ok (.ior, 1) := by decide +kernel
theorem dX12_comesOn_265 : decode cX12_comesOn 265 = .ok (.iastore, 1) := by decide +kernel
theorem dX12_comesOn_266 : decode cX12_comesOn 266 = .ok (.iinc 4 1, 3) := by decide +kernel
theorem dX12_comesOn_269 : decode cX12_comesOn 269 = .ok (.goto (-96), 3) := by decide +kernel
theorem dX12_comesOn_272 : decode cX12_comesOn 272 = .ok (.iconst 0, 1) := by decide +kernel
theorem dX12_comesOn_273 : decode cX12_comesOn 273 = .ok (.istore 4, 2) := by decide +kernel
theorem dX12_comesOn_275 : decode cX12_comesOn 275 = .ok (.iload 4, 2) := by decide +kernel
theorem dX12_comesOn_277 : decode cX12_comesOn 277 = .ok (.aload_n 0, 1) := by decide +kernel
theorem dX12_comesOn_278 : decode cX12_comesOn 278 = .ok (.getfield 7, 3) := by decide +kernel
theorem dX12_comesOn_281 : decode cX12_comesOn 281 = .ok (.iload_n 2, 1) := by decide +kernel
theorem dX12_comesOn_282 : decode cX12_comesOn 282 = .ok (.iaload, 1) := by decide +kernel
theorem dX12_comesOn_283 : decode cX12_comesOn 283 = .ok (.if_icmp .ge 122, 3) := by decide +kernel
theorem dX12_comesOn_286 : decode cX12_comesOn 286 = .ok (.iload_n 2, 1) := by decide +kernel
theorem dX12_comesOn_287 : decode cX12_comesOn 287 = .ok (.iconst 1, 1) := by decide +kernel
theorem dX12_comesOn_288 : decode cX12_comesOn 288 = .ok (.iadd, 1) := by decide +kernel
theorem dX12_comesOn_289 : decode cX12_comesOn 289 = .ok (.iconst 3, 1) := by decide +kernel
theorem dX12_comesOn_290 : decode cX12_comesOn 290 = .ok (.iload 4, 2) := by decide +kernel
theorem dX12_comesOn_292 : decode cX12_comesOn 292 = .ok (.imul, 1) := by decide +kernel
theorem dX12_comesOn_293 : decode cX12_comesOn 293 = .ok (.iadd, 1) := by decide +kernel
theorem dX12_comesOn_294 : decode cX12_comesOn 294 = .ok (.istore 5, 2) := by decide +kernel
theorem dX12_comesOn_296 : decode cX12_comesOn 296 = .ok (.aload_n 0, 1) := by decide +kernel
theorem dX12_comesOn_297 : decode cX12_comesOn 297 = .ok (.getfield 7, 3) := by decide +kernel
theorem dX12_comesOn_300 : decode cX12_comesOn 300 = .ok (.iload 5, 2) := by decide +kernel
theorem dX12_comesOn_302 : decode cX12_comesOn 302 = .ok (.iaload, 1) := by decide +kernel
theorem dX12_comesOn_303 : decode cX12_comesOn 303 = .ok (.iconst 1, 1) := by decide +kernel
theorem dX12_comesOn_304 : decode cX12_comesOn 304 = .ok (.bipush 8, 2) := by decide +kernel
theorem dX12_comesOn_306 : decode cX12_comesOn 306 = .ok (.invokestatic 300, 3) := by decide +kernel
theorem dX12_comesOn_309 : decode cX12_comesOn 309 = .ok (.ifCond .eq 58, 3) := by decide +kernel
theorem dX12_comesOn_312 : decode cX12_comesOn 312 = .ok (.aload_n 0, 1) := by decide +kernel
theorem dX12_comesOn_313 : decode cX12_comesOn 313 = .ok (.aload_n 0, 1) := by decide +kernel
theorem dX12_comesOn_314 : decode cX12_comesOn 314 = .ok (.getfield 7, 3) := by decide +kernel
theorem dX12_comesOn_317 : decode cX12_comesOn 317 = .ok (.iload 5, 2) := by decide +kernel
theorem dX12_comesOn_319 : decode cX12_comesOn 319 = .ok (.iconst 1, 1) := by decide +kernel
theorem dX12_comesOn_320 : decode cX12_comesOn 320 = .ok (.iadd, 1) := by decide +kernel
theorem dX12_comesOn_321 : decode cX12_comesOn 321 = .ok (.iaload, 1) := by decide +kernel
theorem dX12_comesOn_322 : decode cX12_comesOn 322 = .ok (.invokevirtual 470, 3) := by decide +kernel
theorem dX12_comesOn_325 : decode cX12_comesOn 325 = .ok (.ifCond .eq 42, 3) := by decide +kernel
theorem dX12_comesOn_328 : decode cX12_comesOn 328 = .ok (.aload_n 0, 1) := by decide +kernel
theorem dX12_comesOn_329 : decode cX12_comesOn 329 = .ok (.getfield 7, 3) := by decide +kernel
theorem dX12_comesOn_332 : decode cX12_comesOn 332 = .ok (.iload 5, 2) := by decide +kernel
theorem dX12_comesOn_334 : decode cX12_comesOn 334 = .ok (.iconst 2, 1) := by decide +kernel
theorem dX12_comesOn_335 : decode cX12_comesOn 335 = .ok (.iadd, 1) := by decide +kernel
theorem dX12_comesOn_336 : decode cX12_comesOn 336 = .ok (.iaload, 1) := by decide +kernel
theorem dX12_comesOn_337 : decode cX12_comesOn 337 = .ok (.bipush 6, 2) := by decide +kernel
theorem dX12_comesOn_339 : decode cX12_comesOn 339 = .ok (.if_icmp .gt 28, 3) := by decide +kernel
theorem dX12_comesOn_342 : decode cX12_comesOn 342 = .ok (.aload_n 0, 1) := by decide +kernel
theorem dX12_comesOn_343 : decode cX12_comesOn 343 = .ok (.iconst 1, 1) := by decide +kernel
theorem dX12_comesOn_344 : decode cX12_comesOn 344 = .ok (.aload_n 0, 1) := by decide +kernel
theorem dX12_comesOn_345 : decode cX12_comesOn 345 = .ok (.getfield 7, 3) := by decide +kernel
theorem dX12_comesOn_348 : decode cX12_comesOn 348 = .ok (.iload 5, 2) := by decide +kernel
theorem dX12_comesOn_350 : decode cX12_comesOn 350 = .ok (.iaload, 1) := by decide +kernel
theorem dX12_comesOn_351 : decode cX12_comesOn 351 = .ok (.aload_n 0, 1) := by decide +kernel
theorem dX12_comesOn_352 : decode cX12_comesOn 352 = .ok (.getfield 7, 3) := by decide +kernel
theorem dX12_comesOn_355 : decode cX12_comesOn 355 = .ok (.iload 5, 2) := by decide +kernel
theorem dX12_comesOn_357 : decode cX12_comesOn 357 = .ok (.iconst 1, 1) := by decide +kernel
theorem dX12_comesOn_358 : decode cX12_comesOn 358 = .ok (.iadd, 1) := by decide +kernel
theorem dX12_comesOn_359 : decode cX12_comesOn 359 = .ok (.iaload, 1) := by decide +kernel
theorem dX12_comesOn_360 : decode cX12_comesOn 360 = .ok (.invokevirtual 479, 3) := by decide +kernel
theorem dX12_comesOn_363 : decode cX12_comesOn 363 = .ok (.iconst (-1), 1) := by decide +kernel
theorem dX12_comesOn_364 : decode cX12_comesOn 364 = .ok (.if_icmp .eq 5, 3) := by decide +kernel
theorem dX12_comesOn_367 : decode cX12_comesOn 367 = .ok (.iconst 0, 1) := by decide +kernel
theorem dX12_comesOn_368 : decode cX12_comesOn 368 = .ok (.ireturn, 1) := by decide +kernel
theorem dX12_comesOn_369 : decode cX12_comesOn 369 = .ok (.aload_n 0, 1) := by decide +kernel
theorem dX12_comesOn_370 : decode cX12_comesOn 370 = .ok (.iconst 1, 1) := by decide +kernel
theorem dX12_comesOn_371 : decode cX12_comesOn 371 = .ok (.aload_n 0, 1) := by decide +kernel
theorem dX12_comesOn_372 : decode cX12_comesOn 372 = .ok (.getfield 7, 3) := by decide +kernel
theorem dX12_comesOn_375 : decode cX12_comesOn 375 = .ok (.iload 5, 2) := by decide +kernel
theorem dX12_comesOn_377 : decode cX12_comesOn 377 = .ok (.iaload, 1) := by decide +kernel
theorem dX12_comesOn_378 : decode cX12_comesOn 378 = .ok (.aload_n 0, 1) := by decide +kernel
theorem dX12_comesOn_379 : decode cX12_comesOn 379 = .ok (.getfield 7, 3) := by decide +kernel
theorem dX12_comesOn_382 : decode cX12_comesOn 382 = .ok (.iload 5, 2) := by decide +kernel
theorem dX12_comesOn_384 : decode cX12_comesOn 384 = .ok (.iconst 1, 1) := by decide +kernel
theorem dX12_comesOn_385 : decode cX12_comesOn 385 = .ok (.iadd, 1) := by decide +kernel
theorem dX12_comesOn_386 : decode cX12_comesOn 386 = .ok (.iaload, 1) := by decide +kernel
theorem dX12_comesOn_387 : decode cX12_comesOn 387 = .ok (.aload_n 0, 1) := by decide +kernel
theorem dX12_comesOn_388 : decode cX12_comesOn 388 = .ok (.getfield 7, 3) := by decide +kernel
theorem dX12_comesOn_391 : decode cX12_comesOn 391 = .ok (.iload 5, 2) := by decide +kernel
theorem dX12_comesOn_393 : decode cX12_comesOn 393 = .ok (.iconst 2, 1) := by decide +kernel
theorem dX12_comesOn_394 : decode cX12_comesOn 394 = .ok (.iadd, 1) := by decide +kernel
theorem dX12_comesOn_395 : decode cX12_comesOn 395 = .ok (.iaload, 1) := by decide +kernel
theorem dX12_comesOn_396 : decode cX12_comesOn 396 = .ok (.invokevirtual 482, 3) := by decide +kernel
theorem dX12_comesOn_399 : decode cX12_comesOn 399 = .ok (.iinc 4 1, 3) := by decide +kernel
theorem dX12_comesOn_402 : decode cX12_comesOn 402 = .ok (.goto (-127), 3) := by decide +kernel
theorem dX12_comesOn_405 : decode cX12_comesOn 405 = .ok (.iconst 1, 1) := by decide +kernel
theorem dX12_comesOn_406 : decode cX12_comesOn 406 = .ok (.ireturn, 1) := by decide +kernel
set_option maxRecDepth 20000 in
theorem w_X12_beganBits_L127 {Y : YT} {X : CX} (C : Cx Y X cX12_beganBits 7 RX12 6) {Q : Int → Mem → Prop} (hR : Rt Y X (some .int) (PQi Y Q)) {v1 : Int} {v2 : Int} {v3 : Int} {v5 : Int} {k4 : Int → Int → Mem → Prop} (hk4 : ∀ (v2 : Int) (v3 : Int)  (M : Mem), k4 v2 v3 M → G Y X 7 4 [(0, vR Y 199), (1, vI v1), (2, vI v2), (3, vI v3)] ([]) M) {k117 : Int → Mem → Prop} (hk117 : ∀ (v5 : Int)  (M : Mem), k117 v5 M → G Y X 7 117 [(0, vR Y 199), (1, vI v1), (2, vI v2), (3, vI v3), (5, vI v5)] ([]) M) : ∀ (f : Nat) (v6 : Int) (M : Mem), m_X12_beganBits_L127 k4 k117 Q v1 v2 v3 v5 f v6 M → G Y X 7 127 [(0, vR Y 199), (1, vI v1), (2, vI v2), (3, vI v3), (5, vI v5), (6, vI v6)] ([]) M := by
  intro f
  induction f with
  | zero =>
    intro v6 M h
    exact (show False from h).elim
  | succ f ih =>
    intro v6 M h
    unfold m_X12_beganBits_L127 at h
    refine g_iload (q := 5) C dX12_beganBits_127 rfl ?_
    refine g_aload_n (q := 0) C dX12_beganBits_129 rfl rfl ?_
    refine g_getS (v := 201) C fX12_54 dX12_beganBits_130 kd_199 rfl ?_
    refine g_aload_n (q := 0) C dX12_beganBits_133 rfl rfl ?_
    refine g_getI C fX12_51 (by decide) dX12_beganBits_134 kd_199 ?_
    obtain ⟨g1, h⟩ := h
    refine g_iald C dX12_beganBits_137 kd_201 ln_201 g1 ?_
    obtain ⟨g2, h⟩ := h
    obtain ⟨g3, h⟩ := h
    obtain ⟨ht, hf⟩ := h
    refine g_icmp_ge (tgt := 173) C dX12_beganBits_138 (by decide) g2 g3 (fun c => ?_) (fun c => ?_)
    · have h := ht c
      refine g_iinc (q := 4) (v := v5 + 1) (lv' := [(5, vI (v5 + 1)), (0, vR Y 199), (1, vI v1), (2, vI v2), (3, vI v3), (6, vI v6)]) C dX12_beganBits_173 rfl rfl (by decide) rfl ?_
      refine g_goto (tgt := 117) C dX12_beganBits_176 (by decide) ?_
      refine G.sub [1, 2, 3, 4, 0] rfl ?_
      exact hk117 _ _ h
    · have h := hf c
      refine g_aload_n (q := 0) C dX12_beganBits_141 rfl rfl ?_
      refine g_getS (v := 240) C fX12_207 dX12_beganBits_142 kd_199 rfl ?_
      refine g_bipush (v := 63) C dX12_beganBits_145 (by decide +kernel) ?_
      refine g_iload_n (q := 3) C dX12_beganBits_147 rfl rfl ?_
      refine g_imul C dX12_beganBits_148 ?_
      refine g_bipush (v := 7) C dX12_beganBits_149 (by decide +kernel) ?_
      refine g_iload (q := 4) C dX12_beganBits_151 rfl ?_
      refine g_imul C dX12_beganBits_153 ?_
      refine g_iadd C dX12_beganBits_154 ?_
      refine g_iload (q := 5) C dX12_beganBits_155 rfl ?_
      refine g_iadd C dX12_beganBits_157 ?_
      refine g_aload_n (q := 0) C dX12_beganBits_158 rfl rfl ?_
      refine g_iload (q := 4) C dX12_beganBits_159 rfl ?_
      refine g_iload (q := 5) C dX12_beganBits_161 rfl ?_
      refine g_cVi (As := [vI v5, vI v6]) C clX12_430 clvX12_manyAt dX12_beganBits_163 kd_199 rfl (Nat.le_of_ble_eq_true rfl) rfl (by decide) (t_X12_manyAt (Cx.ok C) h) (fun r5 M4 h => ?_)
      obtain ⟨g6, h⟩ := h
      obtain ⟨M7, e_M7⟩ : ∃ z : Mem, z = up M4 240 (((63 * v3) + (7 * v5)) + v6) r5 := ⟨_, rfl⟩
      have h := h M7 e_M7
      refine g_iast C dX12_beganBits_166 kd_240 ln_240 g6 e_M7 ?_
      refine g_iinc (q := 5) (v := v6 + 1) (lv' := [(6, vI (v6 + 1)), (0, vR Y 199), (1, vI v1), (2, vI v2), (3, vI v3), (5, vI v5)]) C dX12_beganBits_167 rfl rfl (by decide) rfl ?_
      refine g_goto (tgt := 127) C dX12_beganBits_170 (by decide) ?_
      refine G.sub [1, 2, 3, 4, 5, 0] rfl ?_
      exact ih _ _ h
set_option maxRecDepth 20000 in
theorem w_X12_beganBits_L117 {Y : YT} {X : CX} (C : Cx Y X cX12_beganBits 7 RX12 6) {Q : Int → Mem → Prop} (hR : Rt Y X (some .int) (PQi Y Q)) {v1 : Int} {v2 : Int} {v3 : Int} {k4 : Int → Int → Mem → Prop} (hk4 : ∀ (v2 : Int) (v3 : Int)  (M : Mem), k4 v2 v3 M → G Y X 7 4 [(0, vR Y 199), (1, vI v1), (2, vI v2), (3, vI v3)] ([]) M) : ∀ (f : Nat) (v5 : Int) (M : Mem), m_X12_beganBits_L117 k4 Q v1 v2 v3 f v5 M → G Y X 7 117 [(0, vR Y 199), (1, vI v1), (2, vI v2), (3, vI v3), (5, vI v5)] ([]) M := by
  intro f
  induction f with
  | zero =>
    intro v5 M h
    exact (show False from h).elim
  | succ f ih =>
    intro v5 M h
    unfold m_X12_beganBits_L117 at h
    refine g_iload (q := 4) C dX12_beganBits_117 rfl ?_
    refine g_bipush (v := 8) C dX12_beganBits_119 (by decide +kernel) ?_
    obtain ⟨g8, h⟩ := h
    obtain ⟨ht, hf⟩ := h
    refine g_icmp_gt (tgt := 179) C dX12_beganBits_121 (by decide) g8 (by decide) (fun c => ?_) (fun c => ?_)
    · have h := ht c
      refine g_iinc (q := 3) (v := v3 + 1) (lv' := [(3, vI (v3 + 1)), (0, vR Y 199), (1, vI v1), (2, vI v2), (5, vI v5)]) C dX12_beganBits_179 rfl rfl (by decide) rfl ?_
      refine g_goto (tgt := 4) C dX12_beganBits_182 (by decide) ?_
      refine G.sub [1, 2, 3, 0] rfl ?_
      exact hk4 _ _ _ h
    · have h := hf c
      refine g_iconst C dX12_beganBits_124 rfl ?_
      refine g_istore (lv' := [(6, vI 0), (0, vR Y 199), (1, vI v1), (2, vI v2), (3, vI v3), (5, vI v5)]) C dX12_beganBits_125 (by decide) rfl ?_
      obtain ⟨f0, h⟩ := h
      refine G.sub [1, 2, 3, 4, 5, 0] rfl ?_
      exact w_X12_beganBits_L127 C hR (hk4) (ih)  f0 _ _ h
set_option maxRecDepth 20000 in
theorem w_X12_beganBits_J112 {Y : YT} {X : CX} (C : Cx Y X cX12_beganBits 7 RX12 6) {Q : Int → Mem → Prop} (hR : Rt Y X (some .int) (PQi Y Q)) {v1 : Int} {v3 : Int} {s0 : Int} {s1 : Int} {k4 : Int → Int → Mem → Prop} (hk4 : ∀ (v2 : Int) (v3 : Int)  (M : Mem), k4 v2 v3 M → G Y X 7 4 [(0, vR Y 199), (1, vI v1), (2, vI v2), (3, vI v3)] ([]) M) {M : Mem}  (h : m_X12_beganBits_J112 k4 Q v1 v3 s0 s1 M) : G Y X 7 112 [(0, vR Y 199), (1, vI v1), (3, vI v3)] ((vI s1) :: (vI s0) :: []) M := by
  unfold m_X12_beganBits_J112 at h
  refine g_ior C dX12_beganBits_112 ?_
  refine g_istore_n (lv' := [(2, vI (zor s0 s1)), (0, vR Y 199), (1, vI v1), (3, vI v3)]) C dX12_beganBits_113 rfl (by decide) rfl ?_
  refine g_iconst C dX12_beganBits_114 rfl ?_
  refine g_istore (lv' := [(5, vI 1), (2, vI (zor s0 s1)), (0, vR Y 199), (1, vI v1), (3, vI v3)]) C dX12_beganBits_115 (by decide) rfl ?_
  obtain ⟨f0, h⟩ := h
  refine G.sub [2, 3, 1, 4, 0] rfl ?_
  exact w_X12_beganBits_L117 C hR (hk4)  f0 _ _ h
set_option maxRecDepth 20000 in
theorem w_X12_beganBits_J91 {Y : YT} {X : CX} (C : Cx Y X cX12_beganBits 7 RX12 6) {Q : Int → Mem → Prop} (hR : Rt Y X (some .int) (PQi Y Q)) {v1 : Int} {v2 : Int} {v3 : Int} {v5 : Int} {s0 : Int} {k4 : Int → Int → Mem → Prop} (hk4 : ∀ (v2 : Int) (v3 : Int)  (M : Mem), k4 v2 v3 M → G Y X 7 4 [(0, vR Y 199), (1, vI v1), (2, vI v2), (3, vI v3)] ([]) M) {k44 : Int → Int → Mem → Prop} (hk44 : ∀ (v4 : Int) (v5 : Int)  (M : Mem), k44 v4 v5 M → G Y X 7 44 [(0, vR Y 199), (1, vI v1), (2, vI v2), (3, vI v3), (4, vI v4), (5, vI v5)] ([]) M) {M : Mem}  (h : m_X12_beganBits_J91 k4 k44 Q v1 v2 v3 v5 s0 M) : G Y X 7 91 [(0, vR Y 199), (1, vI v1), (2, vI v2), (3, vI v3), (5, vI v5)] ((vI s0) :: []) M := by
  unfold m_X12_beganBits_J91 at h
  refine g_istore (lv' := [(4, vI s0), (0, vR Y 199), (1, vI v1), (2, vI v2), (3, vI v3), (5, vI v5)]) C dX12_beganBits_91 (by decide) rfl ?_
  refine g_iinc (q := 5) (v := v5 + 1) (lv' := [(5, vI (v5 + 1)), (4, vI s0), (0, vR Y 199), (1, vI v1), (2, vI v2), (3, vI v3)]) C dX12_beganBits_93 rfl rfl (by decide) rfl ?_
  refine g_goto (tgt := 44) C dX12_beganBits_96 (by decide) ?_
  refine G.sub [2, 3, 4, 5, 1, 0] rfl ?_
  exact hk44 _ _ _ h
set_option maxRecDepth 20000 in
theorem w_X12_beganBits_J90 {Y : YT} {X : CX} (C : Cx Y X cX12_beganBits 7 RX12 6) {Q : Int → Mem → Prop} (hR : Rt Y X (some .int) (PQi Y Q)) {v1 : Int} {v2 : Int} {v3 : Int} {v5 : Int} {k4 : Int → Int → Mem → Prop} (hk4 : ∀ (v2 : Int) (v3 : Int)  (M : Mem), k4 v2 v3 M → G Y X 7 4 [(0, vR Y 199), (1, vI v1), (2, vI v2), (3, vI v3)] ([]) M) {k44 : Int → Int → Mem → Prop} (hk44 : ∀ (v4 : Int) (v5 : Int)  (M : Mem), k44 v4 v5 M → G Y X 7 44 [(0, vR Y 199), (1, vI v1), (2, vI v2), (3, vI v3), (4, vI v4), (5, vI v5)] ([]) M) {M : Mem}  (h : m_X12_beganBits_J90 k4 k44 Q v1 v2 v3 v5 M) : G Y X 7 90 [(0, vR Y 199), (1, vI v1), (2, vI v2), (3, vI v3), (5, vI v5)] ([]) M := by
  unfold m_X12_beganBits_J90 at h
  refine g_iconst C dX12_beganBits_90 rfl ?_
  refine G.sub [0, 1, 2, 3, 4] rfl ?_
  exact w_X12_beganBits_J91 C hR (hk4) (hk44)  h
set_option maxRecDepth 20000 in
theorem w_X12_beganBits_L44 {Y : YT} {X : CX} (C : Cx Y X cX12_beganBits 7 RX12 6) {Q : Int → Mem → Prop} (hR : Rt Y X (some .int) (PQi Y Q)) {v1 : Int} {v2 : Int} {v3 : Int} {k4 : Int → Int → Mem → Prop} (hk4 : ∀ (v2 : Int) (v3 : Int)  (M : Mem), k4 v2 v3 M → G Y X 7 4 [(0, vR Y 199), (1, vI v1), (2, vI v2), (3, vI v3)] ([]) M) : ∀ (f : Nat) (v4 : Int) (v5 : Int) (M : Mem), m_X12_beganBits_L44 k4 Q v1 v2 v3 f v4 v5 M → G Y X 7 44 [(0, vR Y 199), (1, vI v1), (2, vI v2), (3, vI v3), (4, vI v4), (5, vI v5)] ([]) M := by
  intro f
  induction f with
  | zero =>
    intro v4 v5 M h
    exact (show False from h).elim
  | succ f ih =>
    intro v4 v5 M h
    unfold m_X12_beganBits_L44 at h
    refine g_iload (q := 5) C dX12_beganBits_44 rfl ?_
    refine g_aload_n (q := 0) C dX12_beganBits_46 rfl rfl ?_
    refine g_getI C fX12_195 (by decide) dX12_beganBits_47 kd_199 ?_
    obtain ⟨g9, h⟩ := h
    obtain ⟨g10, h⟩ := h
    obtain ⟨ht, hf⟩ := h
    refine g_icmp_ge (tgt := 99) C dX12_beganBits_50 (by decide) g9 g10 (fun c => ?_) (fun c => ?_)
    · have h := ht c
      refine g_iload_n (q := 2) C dX12_beganBits_99 rfl rfl ?_
      refine g_iload (q := 4) C dX12_beganBits_100 rfl ?_
      obtain ⟨g11, h⟩ := h
      obtain ⟨ht, hf⟩ := h
      refine g_if_eq (tgt := 111) C dX12_beganBits_102 (by decide) g11 (fun c => ?_) (fun c => ?_)
      · have h := ht c
        refine g_iconst C dX12_beganBits_111 rfl ?_
        refine G.sub [0, 1, 3] rfl ?_
        exact w_X12_beganBits_J112 C hR (hk4)  h
      · have h := hf c
        refine g_iconst C dX12_beganBits_105 rfl ?_
        refine g_iload_n (q := 3) C dX12_beganBits_106 rfl rfl ?_
        refine g_ishl C dX12_beganBits_107 ?_
        refine g_goto (tgt := 112) C dX12_beganBits_108 (by decide) ?_
        refine G.sub [0, 1, 3] rfl ?_
        exact w_X12_beganBits_J112 C hR (hk4)  h
    · have h := hf c
      refine g_iload (q := 4) C dX12_beganBits_53 rfl ?_
      obtain ⟨g12, h⟩ := h
      obtain ⟨ht, hf⟩ := h
      refine g_if_eq (tgt := 90) C dX12_beganBits_55 (by decide) g12 (fun c => ?_) (fun c => ?_)
      · have h := ht c
        refine G.sub [0, 1, 2, 3, 5] rfl ?_
        exact w_X12_beganBits_J90 C hR (hk4) (ih)  h
      · have h := hf c
        refine g_aload_n (q := 0) C dX12_beganBits_58 rfl rfl ?_
        refine g_aload_n (q := 0) C dX12_beganBits_59 rfl rfl ?_
        refine g_getS (v := 237) C fX12_198 dX12_beganBits_60 kd_199 rfl ?_
        refine g_iload (q := 5) C dX12_beganBits_63 rfl ?_
        obtain ⟨g13, h⟩ := h
        refine g_iald C dX12_beganBits_65 kd_237 ln_237 g13 ?_
        refine g_aload_n (q := 0) C dX12_beganBits_66 rfl rfl ?_
        refine g_getS (v := 238) C fX12_201 dX12_beganBits_67 kd_199 rfl ?_
        refine g_iload (q := 5) C dX12_beganBits_70 rfl ?_
        obtain ⟨g14, h⟩ := h
        refine g_iald C dX12_beganBits_72 kd_238 ln_238 g14 ?_
        refine g_cVi (As := [vI (M 237 v5), vI (M 238 v5)]) C clX12_430 clvX12_manyAt dX12_beganBits_73 kd_199 rfl (Nat.le_of_ble_eq_true rfl) rfl (by decide) (t_X12_manyAt (Cx.ok C) h) (fun r16 M15 h => ?_)
        refine g_aload_n (q := 0) C dX12_beganBits_76 rfl rfl ?_
        refine g_getS (v := 239) C fX12_204 dX12_beganBits_77 kd_199 rfl ?_
        refine g_iload (q := 5) C dX12_beganBits_80 rfl ?_
        obtain ⟨g17, h⟩ := h
        refine g_iald C dX12_beganBits_82 kd_239 ln_239 g17 ?_
        obtain ⟨g18, h⟩ := h
        obtain ⟨g19, h⟩ := h
        obtain ⟨ht, hf⟩ := h
        refine g_icmp_ne (tgt := 90) C dX12_beganBits_83 (by decide) g18 g19 (fun c => ?_) (fun c => ?_)
        · have h := hf c
          refine G.sub [0, 1, 2, 3, 5] rfl ?_
          exact w_X12_beganBits_J90 C hR (hk4) (ih)  h
        · have h := ht c
          refine g_iconst C dX12_beganBits_86 rfl ?_
          refine g_goto (tgt := 91) C dX12_beganBits_87 (by decide) ?_
          refine G.sub [0, 1, 2, 3, 5] rfl ?_
          exact w_X12_beganBits_J91 C hR (hk4) (ih)  h
set_option maxRecDepth 20000 in
theorem w_X12_beganBits_L4 {Y : YT} {X : CX} (C : Cx Y X cX12_beganBits 7 RX12 6) {Q : Int → Mem → Prop} (hR : Rt Y X (some .int) (PQi Y Q)) {v1 : Int}  : ∀ (f : Nat) (v2 : Int) (v3 : Int) (M : Mem), m_X12_beganBits_L4  Q v1 f v2 v3 M → G Y X 7 4 [(0, vR Y 199), (1, vI v1), (2, vI v2), (3, vI v3)] ([]) M := by
  intro f
  induction f with
  | zero =>
    intro v2 v3 M h
    exact (show False from h).elim
  | succ f ih =>
    intro v2 v3 M h
    unfold m_X12_beganBits_L4 at h
    refine g_iload_n (q := 3) C dX12_beganBits_4 rfl rfl ?_
    refine g_aload_n (q := 0) C dX12_beganBits_5 rfl rfl ?_
    refine g_getS (v := 201) C fX12_54 dX12_beganBits_6 kd_199 rfl ?_
    refine g_aload_n (q := 0) C dX12_beganBits_9 rfl rfl ?_
    refine g_getI C fX12_51 (by decide) dX12_beganBits_10 kd_199 ?_
    obtain ⟨g20, h⟩ := h
    refine g_iald C dX12_beganBits_13 kd_201 ln_201 g20 ?_
    obtain ⟨g21, h⟩ := h
    obtain ⟨g22, h⟩ := h
    obtain ⟨ht, hf⟩ := h
    refine g_icmp_ge (tgt := 185) C dX12_beganBits_14 (by decide) g21 g22 (fun c => ?_) (fun c => ?_)
    · have h := ht c
      refine g_iload_n (q := 2) C dX12_beganBits_185 rfl rfl ?_
      exact g_reti C hR dX12_beganBits_186 h
    · have h := hf c
      refine g_aload_n (q := 0) C dX12_beganBits_17 rfl rfl ?_
      refine g_iconst C dX12_beganBits_18 rfl ?_
      refine g_iconst C dX12_beganBits_19 rfl ?_
      refine g_cVv (As := [vI 1, vI 0]) C clX12_411 clvX12_copies dX12_beganBits_20 kd_199 rfl (Nat.le_of_ble_eq_true rfl) rfl (by decide) (t_X12_copies (Cx.ok C) h) (fun M23 h => ?_)
      refine g_aload_n (q := 0) C dX12_beganBits_23 rfl rfl ?_
      refine g_getS (v := 228) C fX12_159 dX12_beganBits_24 kd_199 rfl ?_
      refine g_bipush (v := 6) C dX12_beganBits_27 (by decide +kernel) ?_
      refine g_iload_n (q := 1) C dX12_beganBits_29 rfl rfl ?_
      refine g_iadd C dX12_beganBits_30 ?_
      refine g_iload_n (q := 3) C dX12_beganBits_31 rfl rfl ?_
      obtain ⟨g24, h⟩ := h
      obtain ⟨M25, e_M25⟩ : ∃ z : Mem, z = up M23 228 (6 + v1) v3 := ⟨_, rfl⟩
      have h := h M25 e_M25
      refine g_iast C dX12_beganBits_32 kd_228 ln_228 g24 e_M25 ?_
      refine g_aload_n (q := 0) C dX12_beganBits_33 rfl rfl ?_
      refine g_iconst C dX12_beganBits_34 rfl ?_
      refine g_cVv (As := [vI 1]) C clX12_453 clvX12_runs dX12_beganBits_35 kd_199 rfl (Nat.le_of_ble_eq_true rfl) rfl (by decide) (t_X12_runs (Cx.ok C) h) (fun M26 h => ?_)
      refine g_iconst C dX12_beganBits_38 rfl ?_
      refine g_istore (lv' := [(4, vI 1), (0, vR Y 199), (1, vI v1), (2, vI v2), (3, vI v3)]) C dX12_beganBits_39 (by decide) rfl ?_
      refine g_iconst C dX12_beganBits_41 rfl ?_
      refine g_istore (lv' := [(5, vI 0), (4, vI 1), (0, vR Y 199), (1, vI v1), (2, vI v2), (3, vI v3)]) C dX12_beganBits_42 (by decide) rfl ?_
      obtain ⟨f0, h⟩ := h
      refine G.sub [2, 3, 4, 5, 1, 0] rfl ?_
      exact w_X12_beganBits_L44 C hR (ih)  f0 _ _ _ h
set_option maxRecDepth 20000 in
theorem t_X12_beganBits {l : Launch} {Y : YT} (hY : YOK Y) {a0 : Int} {M : Mem} {Q : Int → Mem → Prop} (h : m_X12_beganBits a0 M Q) : Ctr l Y yX12_beganBits cX12_beganBits 7 (some .int) 6 [vR Y 199, vI a0] M (PQi Y Q) := by
  unfold m_X12_beganBits at h
  refine ctr_ofF hY (by decide +kernel) (Nat.le_of_ble_eq_true rfl) [(0, vR Y 199), (1, vI a0)] rfl (fun X hX C hR => ?_)
  refine g_iconst C dX12_beganBits_0 rfl ?_
  refine g_istore_n (lv' := [(2, vI 0), (0, vR Y 199), (1, vI a0)]) C dX12_beganBits_1 rfl (by decide) rfl ?_
  refine g_iconst C dX12_beganBits_2 rfl ?_
  refine g_istore_n (lv' := [(3, vI 0), (2, vI 0), (0, vR Y 199), (1, vI a0)]) C dX12_beganBits_3 rfl (by decide) rfl ?_
  obtain ⟨f0, h⟩ := h
  refine G.sub [2, 3, 1, 0] rfl ?_
  exact w_X12_beganBits_L4 C hR  f0 _ _ _ h
set_option maxRecDepth 20000 in
theorem w_X12_began_J247 {Y : YT} {X : CX} (C : Cx Y X cX12_began 11 RX12 7) {Q : Int → Mem → Prop} (hR : Rt Y X (some .int) (PQi Y Q)) {s0 : Int}  {M : Mem}  (h : m_X12_began_J247  Q s0 M) : G Y X 11 247 [] ((vI s0) :: []) M := by
  unfold m_X12_began_J247 at h
  exact g_reti C hR dX12_began_247 h
set_option maxRecDepth 20000 in
theorem w_X12_began_J209 {Y : YT} {X : CX} (C : Cx Y X cX12_began 11 RX12 7) {Q : Int → Mem → Prop} (hR : Rt Y X (some .int) (PQi Y Q)) {v2 : Int} {v4 : Int} {v5 : Int}  {M : Mem}  (h : m_X12_began_J209  Q v2 v4 v5 M) : G Y X 11 209 [(2, vI v2), (4, vI v4), (5, vI v5)] ([]) M := by
  unfold m_X12_began_J209 at h
  refine g_iload (q := 1) C dX12_began_209 rfl ?_
  refine g_iconst C dX12_began_211 rfl ?_
  obtain ⟨g1, h⟩ := h
  obtain ⟨ht, hf⟩ := h
  refine g_icmp_ne (tgt := 219) C dX12_began_212 (by decide) g1 (by decide) (fun c => ?_) (fun c => ?_)
  · have h := hf c
    refine g_iload_n (q := 0) C dX12_began_219 rfl rfl ?_
    refine g_iconst C dX12_began_220 rfl ?_
    obtain ⟨g2, h⟩ := h
    obtain ⟨ht, hf⟩ := h
    refine g_icmp_ne (tgt := 232) C dX12_began_221 (by decide) g2 (by decide) (fun c => ?_) (fun c => ?_)
    · have h := hf c
      refine g_iload_n (q := 0) C dX12_began_232 rfl rfl ?_
      refine g_iconst C dX12_began_233 rfl ?_
      obtain ⟨g3, h⟩ := h
      obtain ⟨ht, hf⟩ := h
      refine g_icmp_ne (tgt := 245) C dX12_began_234 (by decide) g3 (by decide) (fun c => ?_) (fun c => ?_)
      · have h := hf c
        refine g_iload (q := 2) C dX12_began_245 rfl ?_
        refine G.sub [] rfl ?_
        exact w_X12_began_J247 C hR  h
      · have h := ht c
        refine g_iload (q := 1) C dX12_began_237 rfl ?_
        refine g_bipush (v := 7) C dX12_began_239 (by decide +kernel) ?_
        obtain ⟨g4, h⟩ := h
        refine g_irem C dX12_began_241 g4 (by decide) (by decide) ?_
        refine g_goto (tgt := 247) C dX12_began_242 (by decide) ?_
        refine G.sub [] rfl ?_
        exact w_X12_began_J247 C hR  h
    · have h := ht c
      refine g_iload (q := 1) C dX12_began_224 rfl ?_
      refine g_bipush (v := 7) C dX12_began_226 (by decide +kernel) ?_
      obtain ⟨g5, h⟩ := h
      refine g_idiv C dX12_began_228 g5 (by decide) (by decide) ?_
      refine g_goto (tgt := 247) C dX12_began_229 (by decide) ?_
      refine G.sub [] rfl ?_
      exact w_X12_began_J247 C hR  h
  · have h := ht c
    refine g_iconst C dX12_began_215 rfl ?_
    refine g_goto (tgt := 247) C dX12_began_216 (by decide) ?_
    refine G.sub [] rfl ?_
    exact w_X12_began_J247 C hR  h
set_option maxRecDepth 20000 in
theorem w_X12_began_J203 {Y : YT} {X : CX} (C : Cx Y X cX12_began 11 RX12 7) {Q : Int → Mem → Prop} (hR : Rt Y X (some .int) (PQi Y Q)) {v2 : Int} {v3 : Int} {v4 : Int} {v5 : Int} {v6 : Int} {k43 : Int → Int → Int → Mem → Prop} (hk43 : ∀ (v4 : Int) (v5 : Int) (v6 : Int)  (M : Mem), k43 v4 v5 v6 M → G Y X 11 43 [(0, vR Y 199), (2, vI v2), (3, vI v3), (4, vI v4), (5, vI v5), (6, vI v6)] ([]) M) {M : Mem}  (h : m_X12_began_J203 k43 Q v2 v3 v4 v5 v6 M) : G Y X 11 203 [(0, vR Y 199), (2, vI v2), (3, vI v3), (4, vI v4), (5, vI v5), (6, vI v6)] ([]) M := by
  unfold m_X12_began_J203 at h
  refine g_iinc (q := 5) (v := v6 + 1) (lv' := [(6, vI (v6 + 1)), (0, vR Y 199), (2, vI v2), (3, vI v3), (4, vI v4), (5, vI v5)]) C dX12_began_203 rfl rfl (by decide) rfl ?_
  refine g_goto (tgt := 43) C dX12_began_206 (by decide) ?_
  refine G.sub [1, 2, 3, 4, 5, 0] rfl ?_
  exact hk43 _ _ _ _ h
set_option maxRecDepth 20000 in
theorem w_X12_began_J177 {Y : YT} {X : CX} (C : Cx Y X cX12_began 11 RX12 7) {Q : Int → Mem → Prop} (hR : Rt Y X (some .int) (PQi Y Q)) {v2 : Int} {v3 : Int} {v4 : Int} {v5 : Int} {v6 : Int} {v8 : Int} {s0 : Int} {k43 : Int → Int → Int → Mem → Prop} (hk43 : ∀ (v4 : Int) (v5 : Int) (v6 : Int)  (M : Mem), k43 v4 v5 v6 M → G Y X 11 43 [(0, vR Y 199), (2, vI v2), (3, vI v3), (4, vI v4), (5, vI v5), (6, vI v6)] ([]) M) {k80 : Int → Int → Mem → Prop} (hk80 : ∀ (v7 : Int) (v8 : Int)  (M : Mem), k80 v7 v8 M → G Y X 11 80 [(0, vR Y 199), (2, vI v2), (3, vI v3), (4, vI v4), (5, vI v5), (6, vI v6), (7, vI v7), (8, vI v8)] ([]) M) {M : Mem}  (h : m_X12_began_J177 k43 k80 Q v2 v3 v4 v5 v6 v8 s0 M) : G Y X 11 177 [(0, vR Y 199), (2, vI v2), (3, vI v3), (4, vI v4), (5, vI v5), (6, vI v6), (8, vI v8)] ((vI s0) :: []) M := by
  unfold m_X12_began_J177 at h
  refine g_istore (lv' := [(7, vI s0), (0, vR Y 199), (2, vI v2), (3, vI v3), (4, vI v4), (5, vI v5), (6, vI v6), (8, vI v8)]) C dX12_began_177 (by decide) rfl ?_
  refine g_iinc (q := 7) (v := v8 + 1) (lv' := [(8, vI (v8 + 1)), (7, vI s0), (0, vR Y 199), (2, vI v2), (3, vI v3), (4, vI v4), (5, vI v5), (6, vI v6)]) C dX12_began_179 rfl rfl (by decide) rfl ?_
  refine g_goto (tgt := 80) C dX12_began_182 (by decide) ?_
  refine G.sub [2, 3, 4, 5, 6, 7, 1, 0] rfl ?_
  exact hk80 _ _ _ h
set_option maxRecDepth 20000 in
theorem w_X12_began_J154 {Y : YT} {X : CX} (C : Cx Y X cX12_began 11 RX12 7) {Q : Int → Mem → Prop} (hR : Rt Y X (some .int) (PQi Y Q)) {v2 : Int} {v3 : Int} {v4 : Int} {v5 : Int} {v6 : Int} {v7 : Int} {v8 : Int} {v10 : Int} {s0 : Int} {s1 : Int} {k43 : Int → Int → Int → Mem → Prop} (hk43 : ∀ (v4 : Int) (v5 : Int) (v6 : Int)  (M : Mem), k43 v4 v5 v6 M → G Y X 11 43 [(0, vR Y 199), (2, vI v2), (3, vI v3), (4, vI v4), (5, vI v5), (6, vI v6)] ([]) M) {k80 : Int → Int → Mem → Prop} (hk80 : ∀ (v7 : Int) (v8 : Int)  (M : Mem), k80 v7 v8 M → G Y X 11 80 [(0, vR Y 199), (2, vI v2), (3, vI v3), (4, vI v4), (5, vI v5), (6, vI v6), (7, vI v7), (8, vI v8)] ([]) M) {k93 : Int → Int → Mem → Prop} (hk93 : ∀ (v9 : Int) (v10 : Int)  (M : Mem), k93 v9 v10 M → G Y X 11 93 [(0, vR Y 199), (2, vI v2), (3, vI v3), (4, vI v4), (5, vI v5), (6, vI v6), (7, vI v7), (8, vI v8), (9, vI v9), (10, vI v10)] ([]) M) {M : Mem}  (h : m_X12_began_J154 k43 k80 k93 Q v2 v3 v4 v5 v6 v7 v8 v10 s0 s1 M) : G Y X 11 154 [(0, vR Y 199), (2, vI v2), (3, vI v3), (4, vI v4), (5, vI v5), (6, vI v6), (7, vI v7), (8, vI v8), (10, vI v10)] ((vI s1) :: (vI s0) :: []) M := by
  unfold m_X12_began_J154 at h
  refine g_iadd C dX12_began_154 ?_
  refine g_istore (lv' := [(9, vI (s0 + s1)), (0, vR Y 199), (2, vI v2), (3, vI v3), (4, vI v4), (5, vI v5), (6, vI v6), (7, vI v7), (8, vI v8), (10, vI v10)]) C dX12_began_155 (by decide) rfl ?_
  refine g_iinc (q := 9) (v := v10 + 1) (lv' := [(10, vI (v10 + 1)), (9, vI (s0 + s1)), (0, vR Y 199), (2, vI v2), (3, vI v3), (4, vI v4), (5, vI v5), (6, vI v6), (7, vI v7), (8, vI v8)]) C dX12_began_157 rfl rfl (by decide) rfl ?_
  refine g_goto (tgt := 93) C dX12_began_160 (by decide) ?_
  refine G.sub [2, 3, 4, 5, 6, 7, 8, 9, 1, 0] rfl ?_
  exact hk93 _ _ _ h
set_option maxRecDepth 20000 in
theorem w_X12_began_J153 {Y : YT} {X : CX} (C : Cx Y X cX12_began 11 RX12 7) {Q : Int → Mem → Prop} (hR : Rt Y X (some .int) (PQi Y Q)) {v2 : Int} {v3 : Int} {v4 : Int} {v5 : Int} {v6 : Int} {v7 : Int} {v8 : Int} {v10 : Int} {s0 : Int} {k43 : Int → Int → Int → Mem → Prop} (hk43 : ∀ (v4 : Int) (v5 : Int) (v6 : Int)  (M : Mem), k43 v4 v5 v6 M → G Y X 11 43 [(0, vR Y 199), (2, vI v2), (3, vI v3), (4, vI v4), (5, vI v5), (6, vI v6)] ([]) M) {k80 : Int → Int → Mem → Prop} (hk80 : ∀ (v7 : Int) (v8 : Int)  (M : Mem), k80 v7 v8 M → G Y X 11 80 [(0, vR Y 199), (2, vI v2), (3, vI v3), (4, vI v4), (5, vI v5), (6, vI v6), (7, vI v7), (8, vI v8)] ([]) M) {k93 : Int → Int → Mem → Prop} (hk93 : ∀ (v9 : Int) (v10 : Int)  (M : Mem), k93 v9 v10 M → G Y X 11 93 [(0, vR Y 199), (2, vI v2), (3, vI v3), (4, vI v4), (5, vI v5), (6, vI v6), (7, vI v7), (8, vI v8), (9, vI v9), (10, vI v10)] ([]) M) {M : Mem}  (h : m_X12_began_J153 k43 k80 k93 Q v2 v3 v4 v5 v6 v7 v8 v10 s0 M) : G Y X 11 153 [(0, vR Y 199), (2, vI v2), (3, vI v3), (4, vI v4), (5, vI v5), (6, vI v6), (7, vI v7), (8, vI v8), (10, vI v10)] ((vI s0) :: []) M := by
  unfold m_X12_began_J153 at h
  refine g_iconst C dX12_began_153 rfl ?_
  refine G.sub [0, 1, 2, 3, 4, 5, 6, 7, 8] rfl ?_
  exact w_X12_began_J154 C hR (hk43) (hk80) (hk93)  h
set_option maxRecDepth 20000 in
theorem w_X12_began_L93 {Y : YT} {X : CX} (C : Cx Y X cX12_began 11 RX12 7) {Q : Int → Mem → Prop} (hR : Rt Y X (some .int) (PQi Y Q)) {v2 : Int} {v3 : Int} {v4 : Int} {v5 : Int} {v6 : Int} {v7 : Int} {v8 : Int} {k43 : Int → Int → Int → Mem → Prop} (hk43 : ∀ (v4 : Int) (v5 : Int) (v6 : Int)  (M : Mem), k43 v4 v5 v6 M → G Y X 11 43 [(0, vR Y 199), (2, vI v2), (3, vI v3), (4, vI v4), (5, vI v5), (6, vI v6)] ([]) M) {k80 : Int → Int → Mem → Prop} (hk80 : ∀ (v7 : Int) (v8 : Int)  (M : Mem), k80 v7 v8 M → G Y X 11 80 [(0, vR Y 199), (2, vI v2), (3, vI v3), (4, vI v4), (5, vI v5), (6, vI v6), (7, vI v7), (8, vI v8)] ([]) M) : ∀ (f : Nat) (v9 : Int) (v10 : Int) (M : Mem), m_X12_began_L93 k43 k80 Q v2 v3 v4 v5 v6 v7 v8 f v9 v10 M → G Y X 11 93 [(0, vR Y 199), (2, vI v2), (3, vI v3), (4, vI v4), (5, vI v5), (6, vI v6), (7, vI v7), (8, vI v8), (9, vI v9), (10, vI v10)] ([]) M := by
  intro f
  induction f with
  | zero =>
    intro v9 v10 M h
    exact (show False from h).elim
  | succ f ih =>
    intro v9 v10 M h
    unfold m_X12_began_L93 at h
    refine g_iload (q := 9) C dX12_began_93 rfl ?_
    refine g_bipush (v := 7) C dX12_began_95 (by decide +kernel) ?_
    obtain ⟨g6, h⟩ := h
    obtain ⟨ht, hf⟩ := h
    refine g_icmp_ge (tgt := 163) C dX12_began_97 (by decide) g6 (by decide) (fun c => ?_) (fun c => ?_)
    · have h := ht c
      refine g_iload (q := 8) C dX12_began_163 rfl ?_
      refine g_iload (q := 6) C dX12_began_165 rfl ?_
      obtain ⟨g7, h⟩ := h
      obtain ⟨g8, h⟩ := h
      obtain ⟨ht, hf⟩ := h
      refine g_icmp_le (tgt := 175) C dX12_began_167 (by decide) g7 g8 (fun c => ?_) (fun c => ?_)
      · have h := ht c
        refine g_iload (q := 6) C dX12_began_175 rfl ?_
        refine G.sub [0, 1, 2, 3, 4, 5, 7] rfl ?_
        exact w_X12_began_J177 C hR (hk43) (hk80)  h
      · have h := hf c
        refine g_iload (q := 8) C dX12_began_170 rfl ?_
        refine g_goto (tgt := 177) C dX12_began_172 (by decide) ?_
        refine G.sub [0, 1, 2, 3, 4, 5, 7] rfl ?_
        exact w_X12_began_J177 C hR (hk43) (hk80)  h
    · have h := hf c
      refine g_iload (q := 8) C dX12_began_100 rfl ?_
      refine g_iload_n (q := 2) C dX12_began_102 rfl rfl ?_
      refine g_iload (q := 7) C dX12_began_103 rfl ?_
      refine g_cSi (As := [vI v3, vI v8]) C clX12_342 clsX12_has2 dX12_began_105 rfl (Nat.le_of_ble_eq_true rfl) rfl (by decide) (t_X12_has2 (Cx.ok C) h) (fun r10 M9 h => ?_)
      obtain ⟨g11, h⟩ := h
      obtain ⟨ht, hf⟩ := h
      refine g_if_eq (tgt := 153) C dX12_began_108 (by decide) g11 (fun c => ?_) (fun c => ?_)
      · have h := ht c
        refine G.sub [0, 1, 2, 3, 4, 5, 6, 7, 9] rfl ?_
        exact w_X12_began_J153 C hR (hk43) (hk80) (ih)  h
      · have h := hf c
        refine g_iload_n (q := 2) C dX12_began_111 rfl rfl ?_
        refine g_iload (q := 9) C dX12_began_112 rfl ?_
        refine g_cSi (As := [vI v3, vI v10]) C clX12_342 clsX12_has2 dX12_began_114 rfl (Nat.le_of_ble_eq_true rfl) rfl (by decide) (t_X12_has2 (Cx.ok C) h) (fun r13 M12 h => ?_)
        obtain ⟨g14, h⟩ := h
        obtain ⟨ht, hf⟩ := h
        refine g_if_eq (tgt := 153) C dX12_began_117 (by decide) g14 (fun c => ?_) (fun c => ?_)
        · have h := ht c
          refine G.sub [0, 1, 2, 3, 4, 5, 6, 7, 9] rfl ?_
          exact w_X12_began_J153 C hR (hk43) (hk80) (ih)  h
        · have h := hf c
          refine g_aload_n (q := 0) C dX12_began_120 rfl rfl ?_
          refine g_getS (v := 240) C fX12_207 dX12_began_121 kd_199 rfl ?_
          refine g_bipush (v := 63) C dX12_began_124 (by decide +kernel) ?_
          refine g_iload (q := 7) C dX12_began_126 rfl ?_
          refine g_imul C dX12_began_128 ?_
          refine g_iload (q := 5) C dX12_began_129 rfl ?_
          refine g_iadd C dX12_began_131 ?_
          obtain ⟨g15, h⟩ := h
          refine g_iald C dX12_began_132 kd_240 ln_240 g15 ?_
          refine g_aload_n (q := 0) C dX12_began_133 rfl rfl ?_
          refine g_getS (v := 240) C fX12_207 dX12_began_134 kd_199 rfl ?_
          refine g_bipush (v := 63) C dX12_began_137 (by decide +kernel) ?_
          refine g_iload (q := 9) C dX12_began_139 rfl ?_
          refine g_imul C dX12_began_141 ?_
          refine g_iload (q := 5) C dX12_began_142 rfl ?_
          refine g_iadd C dX12_began_144 ?_
          obtain ⟨g16, h⟩ := h
          refine g_iald C dX12_began_145 kd_240 ln_240 g16 ?_
          obtain ⟨g17, h⟩ := h
          obtain ⟨g18, h⟩ := h
          obtain ⟨ht, hf⟩ := h
          refine g_icmp_ne (tgt := 153) C dX12_began_146 (by decide) g17 g18 (fun c => ?_) (fun c => ?_)
          · have h := hf c
            refine G.sub [0, 1, 2, 3, 4, 5, 6, 7, 9] rfl ?_
            exact w_X12_began_J153 C hR (hk43) (hk80) (ih)  h
          · have h := ht c
            refine g_iconst C dX12_began_149 rfl ?_
            refine g_goto (tgt := 154) C dX12_began_150 (by decide) ?_
            refine G.sub [0, 1, 2, 3, 4, 5, 6, 7, 9] rfl ?_
            exact w_X12_began_J154 C hR (hk43) (hk80) (ih)  h
set_option maxRecDepth 20000 in
theorem w_X12_began_L80 {Y : YT} {X : CX} (C : Cx Y X cX12_began 11 RX12 7) {Q : Int → Mem → Prop} (hR : Rt Y X (some .int) (PQi Y Q)) {v2 : Int} {v3 : Int} {v4 : Int} {v5 : Int} {v6 : Int} {k43 : Int → Int → Int → Mem → Prop} (hk43 : ∀ (v4 : Int) (v5 : Int) (v6 : Int)  (M : Mem), k43 v4 v5 v6 M → G Y X 11 43 [(0, vR Y 199), (2, vI v2), (3, vI v3), (4, vI v4), (5, vI v5), (6, vI v6)] ([]) M) : ∀ (f : Nat) (v7 : Int) (v8 : Int) (M : Mem), m_X12_began_L80 k43 Q v2 v3 v4 v5 v6 f v7 v8 M → G Y X 11 80 [(0, vR Y 199), (2, vI v2), (3, vI v3), (4, vI v4), (5, vI v5), (6, vI v6), (7, vI v7), (8, vI v8)] ([]) M := by
  intro f
  induction f with
  | zero =>
    intro v7 v8 M h
    exact (show False from h).elim
  | succ f ih =>
    intro v7 v8 M h
    unfold m_X12_began_L80 at h
    refine g_iload (q := 7) C dX12_began_80 rfl ?_
    refine g_bipush (v := 7) C dX12_began_82 (by decide +kernel) ?_
    obtain ⟨g19, h⟩ := h
    obtain ⟨ht, hf⟩ := h
    refine g_icmp_ge (tgt := 185) C dX12_began_84 (by decide) g19 (by decide) (fun c => ?_) (fun c => ?_)
    · have h := ht c
      refine g_iload (q := 6) C dX12_began_185 rfl ?_
      refine g_iload (q := 4) C dX12_began_187 rfl ?_
      obtain ⟨g20, h⟩ := h
      obtain ⟨g21, h⟩ := h
      obtain ⟨ht, hf⟩ := h
      refine g_icmp_lt (tgt := 195) C dX12_began_189 (by decide) g20 g21 (fun c => ?_) (fun c => ?_)
      · have h := ht c
        refine g_iload (q := 6) C dX12_began_195 rfl ?_
        refine g_istore (lv' := [(5, vI v7), (0, vR Y 199), (2, vI v2), (3, vI v3), (4, vI v4), (6, vI v6), (7, vI v7), (8, vI v8)]) C dX12_began_197 (by decide) rfl ?_
        refine g_iload (q := 5) C dX12_began_199 rfl ?_
        refine g_istore (lv' := [(4, vI v6), (5, vI v7), (0, vR Y 199), (2, vI v2), (3, vI v3), (6, vI v6), (7, vI v7), (8, vI v8)]) C dX12_began_201 (by decide) rfl ?_
        refine G.sub [2, 3, 4, 0, 1, 5] rfl ?_
        exact w_X12_began_J203 C hR (hk43)  h
      · have h := hf c
        refine g_goto (tgt := 203) C dX12_began_192 (by decide) ?_
        refine G.sub [0, 1, 2, 3, 4, 5] rfl ?_
        exact w_X12_began_J203 C hR (hk43)  h
    · have h := hf c
      refine g_iconst C dX12_began_87 rfl ?_
      refine g_istore (lv' := [(9, vI 0), (0, vR Y 199), (2, vI v2), (3, vI v3), (4, vI v4), (5, vI v5), (6, vI v6), (7, vI v7), (8, vI v8)]) C dX12_began_88 (by decide) rfl ?_
      refine g_iconst C dX12_began_90 rfl ?_
      refine g_istore (lv' := [(10, vI 0), (9, vI 0), (0, vR Y 199), (2, vI v2), (3, vI v3), (4, vI v4), (5, vI v5), (6, vI v6), (7, vI v7), (8, vI v8)]) C dX12_began_91 (by decide) rfl ?_
      obtain ⟨f0, h⟩ := h
      refine G.sub [2, 3, 4, 5, 6, 7, 8, 9, 1, 0] rfl ?_
      exact w_X12_began_L93 C hR (hk43) (ih)  f0 _ _ _ h
set_option maxRecDepth 20000 in
theorem w_X12_began_L43 {Y : YT} {X : CX} (C : Cx Y X cX12_began 11 RX12 7) {Q : Int → Mem → Prop} (hR : Rt Y X (some .int) (PQi Y Q)) {v2 : Int} {v3 : Int}  : ∀ (f : Nat) (v4 : Int) (v5 : Int) (v6 : Int) (M : Mem), m_X12_began_L43  Q v2 v3 f v4 v5 v6 M → G Y X 11 43 [(0, vR Y 199), (2, vI v2), (3, vI v3), (4, vI v4), (5, vI v5), (6, vI v6)] ([]) M := by
  intro f
  induction f with
  | zero =>
    intro v4 v5 v6 M h
    exact (show False from h).elim
  | succ f ih =>
    intro v4 v5 v6 M h
    unfold m_X12_began_L43 at h
    refine g_iload (q := 5) C dX12_began_43 rfl ?_
    refine g_bipush (v := 63) C dX12_began_45 (by decide +kernel) ?_
    obtain ⟨g22, h⟩ := h
    obtain ⟨ht, hf⟩ := h
    refine g_icmp_ge (tgt := 209) C dX12_began_47 (by decide) g22 (by decide) (fun c => ?_) (fun c => ?_)
    · have h := ht c
      refine G.sub [1, 3, 4] rfl ?_
      exact w_X12_began_J209 C hR  h
    · have h := hf c
      refine g_iload_n (q := 2) C dX12_began_50 rfl rfl ?_
      obtain ⟨g23, h⟩ := h
      obtain ⟨ht, hf⟩ := h
      refine g_if_eq (tgt := 209) C dX12_began_51 (by decide) g23 (fun c => ?_) (fun c => ?_)
      · have h := ht c
        refine G.sub [1, 3, 4] rfl ?_
        exact w_X12_began_J209 C hR  h
      · have h := hf c
        refine g_iload (q := 5) C dX12_began_54 rfl ?_
        refine g_bipush (v := 7) C dX12_began_56 (by decide +kernel) ?_
        obtain ⟨g24, h⟩ := h
        refine g_irem C dX12_began_58 g24 (by decide) (by decide) ?_
        refine g_aload_n (q := 0) C dX12_began_59 rfl rfl ?_
        refine g_getS (v := 201) C fX12_54 dX12_began_60 kd_199 rfl ?_
        refine g_aload_n (q := 0) C dX12_began_63 rfl rfl ?_
        refine g_getI C fX12_51 (by decide) dX12_began_64 kd_199 ?_
        obtain ⟨g25, h⟩ := h
        refine g_iald C dX12_began_67 kd_201 ln_201 g25 ?_
        obtain ⟨g26, h⟩ := h
        obtain ⟨g27, h⟩ := h
        obtain ⟨ht, hf⟩ := h
        refine g_icmp_lt (tgt := 74) C dX12_began_68 (by decide) g26 g27 (fun c => ?_) (fun c => ?_)
        · have h := ht c
          refine g_iconst C dX12_began_74 rfl ?_
          refine g_istore (lv' := [(7, vI 0), (0, vR Y 199), (2, vI v2), (3, vI v3), (4, vI v4), (5, vI v5), (6, vI v6)]) C dX12_began_75 (by decide) rfl ?_
          refine g_iconst C dX12_began_77 rfl ?_
          refine g_istore (lv' := [(8, vI 0), (7, vI 0), (0, vR Y 199), (2, vI v2), (3, vI v3), (4, vI v4), (5, vI v5), (6, vI v6)]) C dX12_began_78 (by decide) rfl ?_
          obtain ⟨f0, h⟩ := h
          refine G.sub [2, 3, 4, 5, 6, 7, 1, 0] rfl ?_
          exact w_X12_began_L80 C hR (ih)  f0 _ _ _ h
        · have h := hf c
          refine g_goto (tgt := 203) C dX12_began_71 (by decide) ?_
          refine G.sub [0, 1, 2, 3, 4, 5] rfl ?_
          exact w_X12_began_J203 C hR (ih)  h
set_option maxRecDepth 20000 in
theorem w_X12_began_J17 {Y : YT} {X : CX} (C : Cx Y X cX12_began 11 RX12 7) {Q : Int → Mem → Prop} (hR : Rt Y X (some .int) (PQi Y Q))   {M : Mem}  (h : m_X12_began_J17  Q  M) : G Y X 11 17 [] ([]) M := by
  unfold m_X12_began_J17 at h
  refine g_iconst C dX12_began_17 rfl ?_
  exact g_reti C hR dX12_began_18 h
set_option maxRecDepth 20000 in
theorem t_X12_began {l : Launch} {Y : YT} (hY : YOK Y) {a0 : Int} {a1 : Int} {M : Mem} {Q : Int → Mem → Prop} (h : m_X12_began a0 a1 M Q) : Ctr l Y yX12_began cX12_began 11 (some .int) 7 [vR Y 199, vI a0, vI a1] M (PQi Y Q) := by
  unfold m_X12_began at h
  refine ctr_ofF hY (by decide +kernel) (Nat.le_of_ble_eq_true rfl) [(0, vR Y 199), (1, vI a0), (2, vI a1)] rfl (fun X hX C hR => ?_)
  refine g_aload_n (q := 0) C dX12_began_0 rfl rfl ?_
  refine g_iload_n (q := 1) C dX12_began_1 rfl rfl ?_
  refine g_cVi (As := [vI a0]) C clX12_473 clvX12_isPerson dX12_began_2 kd_199 rfl (Nat.le_of_ble_eq_true rfl) rfl (by decide) (t_X12_isPerson (Cx.ok C) h) (fun r29 M28 h => ?_)
  obtain ⟨g30, h⟩ := h
  obtain ⟨ht, hf⟩ := h
  refine g_if_eq (tgt := 17) C dX12_began_5 (by decide) g30 (fun c => ?_) (fun c => ?_)
  · have h := ht c
    refine G.sub [] rfl ?_
    exact w_X12_began_J17 C hR  h
  · have h := hf c
    refine g_iload_n (q := 2) C dX12_began_8 rfl rfl ?_
    refine g_iconst C dX12_began_9 rfl ?_
    refine g_iconst C dX12_began_10 rfl ?_
    refine g_cSi (As := [vI a1, vI 0, vI 3]) C clX12_300 clsX12_is dX12_began_11 rfl (Nat.le_of_ble_eq_true rfl) rfl (by decide) (t_X12_is (Cx.ok C) h) (fun r32 M31 h => ?_)
    obtain ⟨g33, h⟩ := h
    obtain ⟨ht, hf⟩ := h
    refine g_if_ne (tgt := 19) C dX12_began_14 (by decide) g33 (fun c => ?_) (fun c => ?_)
    · have h := hf c
      refine g_aload_n (q := 0) C dX12_began_19 rfl rfl ?_
      refine g_iload_n (q := 1) C dX12_began_20 rfl rfl ?_
      refine g_cVi (As := [vI a0]) C clX12_500 clvX12_beganBits dX12_began_21 kd_199 rfl (Nat.le_of_ble_eq_true rfl) rfl (by decide) (t_X12_beganBits (Cx.ok C) h) (fun r35 M34 h => ?_)
      refine g_istore_n (lv' := [(3, vI r35), (0, vR Y 199), (1, vI a0), (2, vI a1)]) C dX12_began_24 rfl (by decide) rfl ?_
      refine g_iload_n (q := 3) C dX12_began_25 rfl rfl ?_
      obtain ⟨g36, h⟩ := h
      obtain ⟨ht, hf⟩ := h
      refine g_if_ne (tgt := 31) C dX12_began_26 (by decide) g36 (fun c => ?_) (fun c => ?_)
      · have h := hf c
        refine g_iconst C dX12_began_31 rfl ?_
        refine g_istore (lv' := [(4, vI (-1)), (3, vI r35), (0, vR Y 199), (1, vI a0), (2, vI a1)]) C dX12_began_32 (by decide) rfl ?_
        refine g_ldcw (v := 100000000) C dX12_began_34 kX12_395 (by decide +kernel) ?_
        refine g_istore (lv' := [(5, vI 100000000), (4, vI (-1)), (3, vI r35), (0, vR Y 199), (1, vI a0), (2, vI a1)]) C dX12_began_37 (by decide) rfl ?_
        refine g_bipush (v := 7) C dX12_began_39 (by decide +kernel) ?_
        refine g_istore (lv' := [(6, vI 7), (5, vI 100000000), (4, vI (-1)), (3, vI r35), (0, vR Y 199), (1, vI a0), (2, vI a1)]) C dX12_began_41 (by decide) rfl ?_
        obtain ⟨f0, h⟩ := h
        refine G.sub [4, 6, 3, 2, 1, 0] rfl ?_
        exact w_X12_began_L43 C hR  f0 _ _ _ _ h
      · have h := ht c
        refine g_iload_n (q := 0) C dX12_began_29 rfl rfl ?_
        exact g_reti C hR dX12_began_30 h
    · have h := ht c
      refine G.sub [] rfl ?_
      exact w_X12_began_J17 C hR  h
set_option maxRecDepth 20000 in
theorem w_X12_days_J44 {Y : YT} {X : CX} (C : Cx Y X cX12_days 4 RX12 8) {Q : Int → Mem → Prop} (hR : Rt Y X (some .int) (PQi Y Q)) {v1 : Int} {v3 : Int} {s0 : Int} {s1 : Int} {k25 : Int → Int → Mem → Prop} (hk25 : ∀ (v2 : Int) (v3 : Int)  (M : Mem), k25 v2 v3 M → G Y X 4 25 [(0, vR Y 199), (1, vI v1), (2, vI v2), (3, vI v3)] ([]) M) {M : Mem}  (h : m_X12_days_J44 k25 Q v1 v3 s0 s1 M) : G Y X 4 44 [(0, vR Y 199), (1, vI v1), (3, vI v3)] ((vI s1) :: (vI s0) :: []) M := by
  unfold m_X12_days_J44 at h
  refine g_iadd C dX12_days_44 ?_
  refine g_istore_n (lv' := [(2, vI (s0 + s1)), (0, vR Y 199), (1, vI v1), (3, vI v3)]) C dX12_days_45 rfl (by decide) rfl ?_
  refine g_iinc (q := 3) (v := v3 + 1) (lv' := [(3, vI (v3 + 1)), (2, vI (s0 + s1)), (0, vR Y 199), (1, vI v1)]) C dX12_days_46 rfl rfl (by decide) rfl ?_
  refine g_goto (tgt := 25) C dX12_days_49 (by decide) ?_
  refine G.sub [2, 3, 1, 0] rfl ?_
  exact hk25 _ _ _ h
set_option maxRecDepth 20000 in
theorem w_X12_days_L25 {Y : YT} {X : CX} (C : Cx Y X cX12_days 4 RX12 8) {Q : Int → Mem → Prop} (hR : Rt Y X (some .int) (PQi Y Q)) {v1 : Int}  : ∀ (f : Nat) (v2 : Int) (v3 : Int) (M : Mem), m_X12_days_L25  Q v1 f v2 v3 M → G Y X 4 25 [(0, vR Y 199), (1, vI v1), (2, vI v2), (3, vI v3)] ([]) M := by
  intro f
  induction f with
  | zero =>
    intro v2 v3 M h
    exact (show False from h).elim
  | succ f ih =>
    intro v2 v3 M h
    unfold m_X12_days_L25 at h
    refine g_iload_n (q := 3) C dX12_days_25 rfl rfl ?_
    refine g_iload_n (q := 1) C dX12_days_26 rfl rfl ?_
    obtain ⟨g1, h⟩ := h
    obtain ⟨g2, h⟩ := h
    obtain ⟨ht, hf⟩ := h
    refine g_icmp_ge (tgt := 52) C dX12_days_27 (by decide) g1 g2 (fun c => ?_) (fun c => ?_)
    · have h := ht c
      refine g_iload_n (q := 2) C dX12_days_52 rfl rfl ?_
      exact g_reti C hR dX12_days_53 h
    · have h := hf c
      refine g_iload_n (q := 2) C dX12_days_30 rfl rfl ?_
      refine g_aload_n (q := 0) C dX12_days_31 rfl rfl ?_
      refine g_iconst C dX12_days_32 rfl ?_
      refine g_cVi (As := [vI 0]) C clX12_491 clvX12_passes dX12_days_33 kd_199 rfl (Nat.le_of_ble_eq_true rfl) rfl (by decide) (t_X12_passes (Cx.ok C) h) (fun r4 M3 h => ?_)
      obtain ⟨g5, h⟩ := h
      obtain ⟨ht, hf⟩ := h
      refine g_if_eq (tgt := 43) C dX12_days_36 (by decide) g5 (fun c => ?_) (fun c => ?_)
      · have h := ht c
        refine g_iconst C dX12_days_43 rfl ?_
        refine G.sub [0, 1, 3] rfl ?_
        exact w_X12_days_J44 C hR (ih)  h
      · have h := hf c
        refine g_iconst C dX12_days_39 rfl ?_
        refine g_goto (tgt := 44) C dX12_days_40 (by decide) ?_
        refine G.sub [0, 1, 3] rfl ?_
        exact w_X12_days_J44 C hR (ih)  h
set_option maxRecDepth 20000 in
theorem t_X12_days {l : Launch} {Y : YT} (hY : YOK Y) {a0 : Int} {M : Mem} {Q : Int → Mem → Prop} (h : m_X12_days a0 M Q) : Ctr l Y yX12_days cX12_days 4 (some .int) 8 [vR Y 199, vI a0] M (PQi Y Q) := by
  unfold m_X12_days at h
  refine ctr_ofF hY (by decide +kernel) (Nat.le_of_ble_eq_true rfl) [(0, vR Y 199), (1, vI a0)] rfl (fun X hX C hR => ?_)
  refine g_aload_n (q := 0) C dX12_days_0 rfl rfl ?_
  refine g_iload_n (q := 1) C dX12_days_1 rfl rfl ?_
  refine g_iconst C dX12_days_2 rfl ?_
  refine g_bipush (v := 40) C dX12_days_3 (by decide +kernel) ?_
  refine g_cVi (As := [vI a0, vI 1, vI 40]) C clX12_488 clvX12_isAhead dX12_days_5 kd_199 rfl (Nat.le_of_ble_eq_true rfl) rfl (by decide) (t_X12_isAhead (Cx.ok C) h) (fun r7 M6 h => ?_)
  obtain ⟨g8, h⟩ := h
  obtain ⟨ht, hf⟩ := h
  refine g_if_ne (tgt := 17) C dX12_days_8 (by decide) g8 (fun c => ?_) (fun c => ?_)
  · have h := hf c
    refine g_aload_n (q := 0) C dX12_days_17 rfl rfl ?_
    refine g_cVv (As := []) C clX12_503 clvX12_keeps dX12_days_18 kd_199 rfl (Nat.le_of_ble_eq_true rfl) rfl (by decide) (t_X12_keeps (Cx.ok C) h) (fun M9 h => ?_)
    refine g_iconst C dX12_days_21 rfl ?_
    refine g_istore_n (lv' := [(2, vI 0), (0, vR Y 199), (1, vI a0)]) C dX12_days_22 rfl (by decide) rfl ?_
    refine g_iconst C dX12_days_23 rfl ?_
    refine g_istore_n (lv' := [(3, vI 0), (2, vI 0), (0, vR Y 199), (1, vI a0)]) C dX12_days_24 rfl (by decide) rfl ?_
    obtain ⟨f0, h⟩ := h
    refine G.sub [2, 3, 1, 0] rfl ?_
    exact w_X12_days_L25 C hR  f0 _ _ _ h
  · have h := ht c
    refine g_aload_n (q := 0) C dX12_days_11 rfl rfl ?_
    refine g_iconst C dX12_days_12 rfl ?_
    refine g_cVi (As := [vI 2]) C clX12_216 clvX12_refuses dX12_days_13 kd_199 rfl (Nat.le_of_ble_eq_true rfl) rfl (by decide) (t_X12_refuses (Cx.ok C) h) (fun r11 M10 h => ?_)
    exact g_reti C hR dX12_days_16 h
set_option maxRecDepth 20000 in
theorem t_X12_draw {l : Launch} {Y : YT} (hY : YOK Y) {a0 : Int} {M : Mem} {Q : Int → Mem → Prop} (h : m_X12_draw a0 M Q) : Ctr l Y yX12_draw cX12_draw 2 (some .int) 1 [vR Y 199, vI a0] M (PQi Y Q) := by
  unfold m_X12_draw at h
  refine ctr_ofF hY (by decide +kernel) (Nat.le_of_ble_eq_true rfl) [(0, vR Y 199), (1, vI a0)] rfl (fun X hX C hR => ?_)
  refine g_aload_n (q := 0) C dX12_draw_0 rfl rfl ?_
  refine g_ldc2 (v := 1103515245) C dX12_draw_1 kX12_506 (by decide +kernel) ?_
  refine g_aload_n (q := 0) C dX12_draw_4 rfl rfl ?_
  refine g_getJ C fX12_183 dX12_draw_5 kd_199 ?_
  refine g_lmul C dX12_draw_8 ?_
  refine g_ldc2 (v := 12345) C dX12_draw_9 kX12_508 (by decide +kernel) ?_
  refine g_ladd C dX12_draw_12 ?_
  refine g_ldc2 (v := 2147483648) C dX12_draw_13 kX12_510 (by decide +kernel) ?_
  obtain ⟨g1, h⟩ := h
  refine g_lrem C dX12_draw_16 g1 (by decide) (by decide) ?_
  obtain ⟨M2, e_M2⟩ : ∃ z : Mem, z = up M 199 56 (((1103515245 * (M 199 56)) + 12345).tmod 2147483648) := ⟨_, rfl⟩
  have h := h M2 e_M2
  refine g_putJ C fX12_183 pX12_183 dX12_draw_17 kd_199 e_M2 ?_
  refine g_aload_n (q := 0) C dX12_draw_20 rfl rfl ?_
  refine g_getJ C fX12_183 dX12_draw_21 kd_199 ?_
  refine g_ldc2 (v := 64) C dX12_draw_24 kX12_512 (by decide +kernel) ?_
  obtain ⟨g3, h⟩ := h
  refine g_ldiv C dX12_draw_27 g3 (by decide) (by decide) ?_
  refine g_iload_n (q := 1) C dX12_draw_28 rfl rfl ?_
  obtain ⟨g4, h⟩ := h
  refine g_i2l C dX12_draw_29 g4 ?_
  obtain ⟨g5, h⟩ := h
  obtain ⟨g6, h⟩ := h
  obtain ⟨g7, h⟩ := h
  refine g_lrem C dX12_draw_30 g5 g6 g7 ?_
  refine g_l2i C dX12_draw_31 ?_
  exact g_reti C hR dX12_draw_32 h
set_option maxRecDepth 20000 in
theorem w_X12_chance_J75 {Y : YT} {X : CX} (C : Cx Y X cX12_chance 4 RX12 8) {Q : Int → Mem → Prop} (hR : Rt Y X (some .int) (PQi Y Q)) {v1 : Int} {v2 : Int} {v3 : Int} {k25 : Int → Int → Mem → Prop} (hk25 : ∀ (v2 : Int) (v3 : Int)  (M : Mem), k25 v2 v3 M → G Y X 4 25 [(0, vR Y 199), (1, vI v1), (2, vI v2), (3, vI v3)] ([]) M) {M : Mem}  (h : m_X12_chance_J75 k25 Q v1 v2 v3 M) : G Y X 4 75 [(0, vR Y 199), (1, vI v1), (2, vI v2), (3, vI v3)] ([]) M := by
  unfold m_X12_chance_J75 at h
  refine g_aload_n (q := 0) C dX12_chance_75 rfl rfl ?_
  refine g_iconst C dX12_chance_76 rfl ?_
  refine g_cVi (As := [vI 0]) C clX12_491 clvX12_passes dX12_chance_77 kd_199 rfl (Nat.le_of_ble_eq_true rfl) rfl (by decide) (t_X12_passes (Cx.ok C) h) (fun r2 M1 h => ?_)
  refine g_pop C dX12_chance_80 rfl ?_
  refine g_iinc (q := 3) (v := v3 + 1) (lv' := [(3, vI (v3 + 1)), (0, vR Y 199), (1, vI v1), (2, vI v2)]) C dX12_chance_81 rfl rfl (by decide) rfl ?_
  refine g_goto (tgt := 25) C dX12_chance_84 (by decide) ?_
  refine G.sub [1, 2, 3, 0] rfl ?_
  exact hk25 _ _ _ h
set_option maxRecDepth 20000 in
theorem w_X12_chance_L25 {Y : YT} {X : CX} (C : Cx Y X cX12_chance 4 RX12 8) {Q : Int → Mem → Prop} (hR : Rt Y X (some .int) (PQi Y Q)) {v1 : Int}  : ∀ (f : Nat) (v2 : Int) (v3 : Int) (M : Mem), m_X12_chance_L25  Q v1 f v2 v3 M → G Y X 4 25 [(0, vR Y 199), (1, vI v1), (2, vI v2), (3, vI v3)] ([]) M := by
  intro f
  induction f with
  | zero =>
    intro v2 v3 M h
    exact (show False from h).elim
  | succ f ih =>
    intro v2 v3 M h
    unfold m_X12_chance_L25 at h
    refine g_iload_n (q := 3) C dX12_chance_25 rfl rfl ?_
    refine g_iload_n (q := 1) C dX12_chance_26 rfl rfl ?_
    obtain ⟨g3, h⟩ := h
    obtain ⟨g4, h⟩ := h
    obtain ⟨ht, hf⟩ := h
    refine g_icmp_ge (tgt := 87) C dX12_chance_27 (by decide) g3 g4 (fun c => ?_) (fun c => ?_)
    · have h := ht c
      refine g_iload_n (q := 2) C dX12_chance_87 rfl rfl ?_
      exact g_reti C hR dX12_chance_88 h
    · have h := hf c
      refine g_aload_n (q := 0) C dX12_chance_30 rfl rfl ?_
      refine g_bipush (v := 100) C dX12_chance_31 (by decide +kernel) ?_
      refine g_cVi (As := [vI 100]) C clX12_514 clvX12_draw dX12_chance_33 kd_199 rfl (Nat.le_of_ble_eq_true rfl) rfl (by decide) (t_X12_draw (Cx.ok C) h) (fun r6 M5 h => ?_)
      refine g_aload_n (q := 0) C dX12_chance_36 rfl rfl ?_
      refine g_getS (v := 213) C fX12_90 dX12_chance_37 kd_199 rfl ?_
      refine g_aload_n (q := 0) C dX12_chance_40 rfl rfl ?_
      refine g_getI C fX12_51 (by decide) dX12_chance_41 kd_199 ?_
      obtain ⟨g7, h⟩ := h
      refine g_iald C dX12_chance_44 kd_213 ln_213 g7 ?_
      obtain ⟨g8, h⟩ := h
      obtain ⟨g9, h⟩ := h
      obtain ⟨ht, hf⟩ := h
      refine g_icmp_ge (tgt := 75) C dX12_chance_45 (by decide) g8 g9 (fun c => ?_) (fun c => ?_)
      · have h := ht c
        refine G.sub [0, 1, 2, 3] rfl ?_
        exact w_X12_chance_J75 C hR (ih)  h
      · have h := hf c
        refine g_aload_n (q := 0) C dX12_chance_48 rfl rfl ?_
        refine g_getS (v := 230) C fX12_165 dX12_chance_49 kd_199 rfl ?_
        refine g_iconst C dX12_chance_52 rfl ?_
        refine g_iald C dX12_chance_53 kd_230 ln_230 (by decide) ?_
        obtain ⟨g10, h⟩ := h
        obtain ⟨ht, hf⟩ := h
        refine g_if_le (tgt := 75) C dX12_chance_54 (by decide) g10 (fun c => ?_) (fun c => ?_)
        · have h := ht c
          refine G.sub [0, 1, 2, 3] rfl ?_
          exact w_X12_chance_J75 C hR (ih)  h
        · have h := hf c
          refine g_aload_n (q := 0) C dX12_chance_57 rfl rfl ?_
          refine g_iconst C dX12_chance_58 rfl ?_
          refine g_aload_n (q := 0) C dX12_chance_59 rfl rfl ?_
          refine g_aload_n (q := 0) C dX12_chance_60 rfl rfl ?_
          refine g_getS (v := 230) C fX12_165 dX12_chance_61 kd_199 rfl ?_
          refine g_iconst C dX12_chance_64 rfl ?_
          refine g_iald C dX12_chance_65 kd_230 ln_230 (by decide) ?_
          refine g_cVi (As := [vI (M5 230 0)]) C clX12_514 clvX12_draw dX12_chance_66 kd_199 rfl (Nat.le_of_ble_eq_true rfl) rfl (by decide) (t_X12_draw (Cx.ok C) h) (fun r12 M11 h => ?_)
          refine g_cVv (As := [vI 0, vI r12]) C clX12_485 clvX12_takes dX12_chance_69 kd_199 rfl (Nat.le_of_ble_eq_true rfl) rfl (by decide) (t_X12_takes (Cx.ok C) h) (fun M13 h => ?_)
          refine g_iinc (q := 2) (v := v2 + 1) (lv' := [(2, vI (v2 + 1)), (0, vR Y 199), (1, vI v1), (3, vI v3)]) C dX12_chance_72 rfl rfl (by decide) rfl ?_
          refine G.sub [1, 2, 0, 3] rfl ?_
          exact w_X12_chance_J75 C hR (ih)  h
set_option maxRecDepth 20000 in
theorem t_X12_chance {l : Launch} {Y : YT} (hY : YOK Y) {a0 : Int} {M : Mem} {Q : Int → Mem → Prop} (h : m_X12_chance a0 M Q) : Ctr l Y yX12_chance cX12_chance 4 (some .int) 8 [vR Y 199, vI a0] M (PQi Y Q) := by
  unfold m_X12_chance at h
  refine ctr_ofF hY (by decide +kernel) (Nat.le_of_ble_eq_true rfl) [(0, vR Y 199), (1, vI a0)] rfl (fun X hX C hR => ?_)
  refine g_aload_n (q := 0) C dX12_chance_0 rfl rfl ?_
  refine g_iload_n (q := 1) C dX12_chance_1 rfl rfl ?_
  refine g_iconst C dX12_chance_2 rfl ?_
  refine g_bipush (v := 40) C dX12_chance_3 (by decide +kernel) ?_
  refine g_cVi (As := [vI a0, vI 1, vI 40]) C clX12_488 clvX12_isAhead dX12_chance_5 kd_199 rfl (Nat.le_of_ble_eq_true rfl) rfl (by decide) (t_X12_isAhead (Cx.ok C) h) (fun r15 M14 h => ?_)
  obtain ⟨g16, h⟩ := h
  obtain ⟨ht, hf⟩ := h
  refine g_if_ne (tgt := 17) C dX12_chance_8 (by decide) g16 (fun c => ?_) (fun c => ?_)
  · have h := hf c
    refine g_aload_n (q := 0) C dX12_chance_17 rfl rfl ?_
    refine g_cVv (As := []) C clX12_503 clvX12_keeps dX12_chance_18 kd_199 rfl (Nat.le_of_ble_eq_true rfl) rfl (by decide) (t_X12_keeps (Cx.ok C) h) (fun M17 h => ?_)
    refine g_iconst C dX12_chance_21 rfl ?_
    refine g_istore_n (lv' := [(2, vI 0), (0, vR Y 199), (1, vI a0)]) C dX12_chance_22 rfl (by decide) rfl ?_
    refine g_iconst C dX12_chance_23 rfl ?_
    refine g_istore_n (lv' := [(3, vI 0), (2, vI 0), (0, vR Y 199), (1, vI a0)]) C dX12_chance_24 rfl (by decide) rfl ?_
    obtain ⟨f0, h⟩ := h
    refine G.sub [2, 3, 1, 0] rfl ?_
    exact w_X12_chance_L25 C hR  f0 _ _ _ h
  · have h := ht c
    refine g_aload_n (q := 0) C dX12_chance_11 rfl rfl ?_
    refine g_iconst C dX12_chance_12 rfl ?_
    refine g_cVi (As := [vI 2]) C clX12_216 clvX12_refuses dX12_chance_13 kd_199 rfl (Nat.le_of_ble_eq_true rfl) rfl (by decide) (t_X12_refuses (Cx.ok C) h) (fun r19 M18 h => ?_)
    exact g_reti C hR dX12_chance_16 h
set_option maxRecDepth 20000 in
theorem w_X12_show_J63 {Y : YT} {X : CX} (C : Cx Y X cX12_show 4 RX12 3) {Q : Int → Mem → Prop} (hR : Rt Y X (some .boolean) (PQi Y Q)) {s0 : Int}  {M : Mem}  (h : m_X12_show_J63  Q s0 M) : G Y X 4 63 [] ((vI s0) :: []) M := by
  unfold m_X12_show_J63 at h
  obtain ⟨g1, h⟩ := h
  exact g_retz C hR dX12_show_63 g1 h
set_option maxRecDepth 20000 in
theorem w_X12_show_J50 {Y : YT} {X : CX} (C : Cx Y X cX12_show 4 RX12 3) {Q : Int → Mem → Prop} (hR : Rt Y X (some .boolean) (PQi Y Q))   {M : Mem}  (h : m_X12_show_J50  Q  M) : G Y X 4 50 [(0, vR Y 199)] ([]) M := by
  unfold m_X12_show_J50 at h
  refine g_aload_n (q := 0) C dX12_show_50 rfl rfl ?_
  refine g_iconst C dX12_show_51 rfl ?_
  refine g_cVi (As := [vI 3]) C clX12_216 clvX12_refuses dX12_show_52 kd_199 rfl (Nat.le_of_ble_eq_true rfl) rfl (by decide) (t_X12_refuses (Cx.ok C) h) (fun r3 M2 h => ?_)
  obtain ⟨g4, h⟩ := h
  obtain ⟨ht, hf⟩ := h
  refine g_if_lt (tgt := 62) C dX12_show_55 (by decide) g4 (fun c => ?_) (fun c => ?_)
  · have h := ht c
    refine g_iconst C dX12_show_62 rfl ?_
    refine G.sub [] rfl ?_
    exact w_X12_show_J63 C hR  h
  · have h := hf c
    refine g_iconst C dX12_show_58 rfl ?_
    refine g_goto (tgt := 63) C dX12_show_59 (by decide) ?_
    refine G.sub [] rfl ?_
    exact w_X12_show_J63 C hR  h
set_option maxRecDepth 20000 in
theorem t_X12_show {l : Launch} {Y : YT} (hY : YOK Y) {a0 : Int} {a1 : Int} {a2 : Int} {M : Mem} {Q : Int → Mem → Prop} (h : m_X12_show a0 a1 a2 M Q) : Ctr l Y yX12_show cX12_show 4 (some .boolean) 3 [vR Y 199, vI a0, vI a1, vI a2] M (PQi Y Q) := by
  unfold m_X12_show at h
  refine ctr_ofF hY (by decide +kernel) (Nat.le_of_ble_eq_true rfl) [(0, vR Y 199), (1, vI a0), (2, vI a1), (3, vI a2)] rfl (fun X hX C hR => ?_)
  refine g_iload_n (q := 1) C dX12_show_0 rfl rfl ?_
  refine g_iconst C dX12_show_1 rfl ?_
  refine g_bipush (v := 8) C dX12_show_2 (by decide +kernel) ?_
  refine g_cSi (As := [vI a0, vI 1, vI 8]) C clX12_300 clsX12_is dX12_show_4 rfl (Nat.le_of_ble_eq_true rfl) rfl (by decide) (t_X12_is (Cx.ok C) h) (fun r6 M5 h => ?_)
  obtain ⟨g7, h⟩ := h
  obtain ⟨ht, hf⟩ := h
  refine g_if_eq (tgt := 50) C dX12_show_7 (by decide) g7 (fun c => ?_) (fun c => ?_)
  · have h := ht c
    refine G.sub [0] rfl ?_
    exact w_X12_show_J50 C hR  h
  · have h := hf c
    refine g_aload_n (q := 0) C dX12_show_10 rfl rfl ?_
    refine g_iload_n (q := 2) C dX12_show_11 rfl rfl ?_
    refine g_cVi (As := [vI a1]) C clX12_470 clvX12_isPlace dX12_show_12 kd_199 rfl (Nat.le_of_ble_eq_true rfl) rfl (by decide) (t_X12_isPlace (Cx.ok C) h) (fun r9 M8 h => ?_)
    obtain ⟨g10, h⟩ := h
    obtain ⟨ht, hf⟩ := h
    refine g_if_eq (tgt := 50) C dX12_show_15 (by decide) g10 (fun c => ?_) (fun c => ?_)
    · have h := ht c
      refine G.sub [0] rfl ?_
      exact w_X12_show_J50 C hR  h
    · have h := hf c
      refine g_iload_n (q := 3) C dX12_show_18 rfl rfl ?_
      refine g_iconst C dX12_show_19 rfl ?_
      refine g_bipush (v := 6) C dX12_show_20 (by decide +kernel) ?_
      refine g_cSi (As := [vI a2, vI 0, vI 6]) C clX12_300 clsX12_is dX12_show_22 rfl (Nat.le_of_ble_eq_true rfl) rfl (by decide) (t_X12_is (Cx.ok C) h) (fun r12 M11 h => ?_)
      obtain ⟨g13, h⟩ := h
      obtain ⟨ht, hf⟩ := h
      refine g_if_eq (tgt := 50) C dX12_show_25 (by decide) g13 (fun c => ?_) (fun c => ?_)
      · have h := ht c
        refine G.sub [0] rfl ?_
        exact w_X12_show_J50 C hR  h
      · have h := hf c
        refine g_aload_n (q := 0) C dX12_show_28 rfl rfl ?_
        refine g_getS (v := 230) C fX12_165 dX12_show_29 kd_199 rfl ?_
        refine g_iconst C dX12_show_32 rfl ?_
        refine g_iald C dX12_show_33 kd_230 ln_230 (by decide) ?_
        refine g_bipush (v := 8) C dX12_show_34 (by decide +kernel) ?_
        obtain ⟨g14, h⟩ := h
        obtain ⟨ht, hf⟩ := h
        refine g_icmp_eq (tgt := 50) C dX12_show_36 (by decide) g14 (by decide) (fun c => ?_) (fun c => ?_)
        · have h := ht c
          refine G.sub [0] rfl ?_
          exact w_X12_show_J50 C hR  h
        · have h := hf c
          refine g_aload_n (q := 0) C dX12_show_39 rfl rfl ?_
          refine g_iconst C dX12_show_40 rfl ?_
          refine g_iload_n (q := 1) C dX12_show_41 rfl rfl ?_
          refine g_iload_n (q := 2) C dX12_show_42 rfl rfl ?_
          refine g_cVi (As := [vI 0, vI a0, vI a1]) C clX12_479 clvX12_frameAt dX12_show_43 kd_199 rfl (Nat.le_of_ble_eq_true rfl) rfl (by decide) (t_X12_frameAt (Cx.ok C) h) (fun r16 M15 h => ?_)
          refine g_iconst C dX12_show_46 rfl ?_
          obtain ⟨g17, h⟩ := h
          obtain ⟨ht, hf⟩ := h
          refine g_icmp_eq (tgt := 64) C dX12_show_47 (by decide) g17 (by decide) (fun c => ?_) (fun c => ?_)
          · have h := ht c
            refine g_aload_n (q := 0) C dX12_show_64 rfl rfl ?_
            refine g_cVv (As := []) C clX12_503 clvX12_keeps dX12_show_65 kd_199 rfl (Nat.le_of_ble_eq_true rfl) rfl (by decide) (t_X12_keeps (Cx.ok C) h) (fun M18 h => ?_)
            refine g_aload_n (q := 0) C dX12_show_68 rfl rfl ?_
            refine g_iconst C dX12_show_69 rfl ?_
            refine g_iload_n (q := 1) C dX12_show_70 rfl rfl ?_
            refine g_iload_n (q := 2) C dX12_show_71 rfl rfl ?_
            refine g_iload_n (q := 3) C dX12_show_72 rfl rfl ?_
            refine g_cVv (As := [vI 0, vI a0, vI a1, vI a2]) C clX12_482 clvX12_shows dX12_show_73 kd_199 rfl (Nat.le_of_ble_eq_true rfl) rfl (by decide) (t_X12_shows (Cx.ok C) h) (fun M19 h => ?_)
            refine g_iconst C dX12_show_76 rfl ?_
            exact g_retz C hR dX12_show_77 (by decide) h
          · have h := hf c
            refine G.sub [0] rfl ?_
            exact w_X12_show_J50 C hR  h
set_option maxRecDepth 20000 in
theorem w_X12_cut_J29 {Y : YT} {X : CX} (C : Cx Y X cX12_cut 2 RX12 3) {Q : Int → Mem → Prop} (hR : Rt Y X (some .boolean) (PQi Y Q)) {s0 : Int}  {M : Mem}  (h : m_X12_cut_J29  Q s0 M) : G Y X 2 29 [] ((vI s0) :: []) M := by
  unfold m_X12_cut_J29 at h
  obtain ⟨g1, h⟩ := h
  exact g_retz C hR dX12_cut_29 g1 h
set_option maxRecDepth 20000 in
theorem t_X12_cut {l : Launch} {Y : YT} (hY : YOK Y) {a0 : Int} {M : Mem} {Q : Int → Mem → Prop} (h : m_X12_cut a0 M Q) : Ctr l Y yX12_cut cX12_cut 2 (some .boolean) 3 [vR Y 199, vI a0] M (PQi Y Q) := by
  unfold m_X12_cut at h
  refine ctr_ofF hY (by decide +kernel) (Nat.le_of_ble_eq_true rfl) [(0, vR Y 199), (1, vI a0)] rfl (fun X hX C hR => ?_)
  refine g_iload_n (q := 1) C dX12_cut_0 rfl rfl ?_
  refine g_iconst C dX12_cut_1 rfl ?_
  refine g_aload_n (q := 0) C dX12_cut_2 rfl rfl ?_
  refine g_getS (v := 230) C fX12_165 dX12_cut_3 kd_199 rfl ?_
  refine g_iconst C dX12_cut_6 rfl ?_
  refine g_iald C dX12_cut_7 kd_230 ln_230 (by decide) ?_
  refine g_iconst C dX12_cut_8 rfl ?_
  refine g_isub C dX12_cut_9 ?_
  refine g_cSi (As := [vI a0, vI 0, vI ((M 230 0) - 1)]) C clX12_300 clsX12_is dX12_cut_10 rfl (Nat.le_of_ble_eq_true rfl) rfl (by decide) (t_X12_is (Cx.ok C) h) (fun r3 M2 h => ?_)
  obtain ⟨g4, h⟩ := h
  obtain ⟨ht, hf⟩ := h
  refine g_if_ne (tgt := 30) C dX12_cut_13 (by decide) g4 (fun c => ?_) (fun c => ?_)
  · have h := hf c
    refine g_aload_n (q := 0) C dX12_cut_30 rfl rfl ?_
    refine g_cVv (As := []) C clX12_503 clvX12_keeps dX12_cut_31 kd_199 rfl (Nat.le_of_ble_eq_true rfl) rfl (by decide) (t_X12_keeps (Cx.ok C) h) (fun M5 h => ?_)
    refine g_aload_n (q := 0) C dX12_cut_34 rfl rfl ?_
    refine g_iconst C dX12_cut_35 rfl ?_
    refine g_iload_n (q := 1) C dX12_cut_36 rfl rfl ?_
    refine g_cVv (As := [vI 0, vI a0]) C clX12_485 clvX12_takes dX12_cut_37 kd_199 rfl (Nat.le_of_ble_eq_true rfl) rfl (by decide) (t_X12_takes (Cx.ok C) h) (fun M6 h => ?_)
    refine g_iconst C dX12_cut_40 rfl ?_
    exact g_retz C hR dX12_cut_41 (by decide) h
  · have h := ht c
    refine g_aload_n (q := 0) C dX12_cut_16 rfl rfl ?_
    refine g_iconst C dX12_cut_17 rfl ?_
    refine g_cVi (As := [vI 3]) C clX12_216 clvX12_refuses dX12_cut_18 kd_199 rfl (Nat.le_of_ble_eq_true rfl) rfl (by decide) (t_X12_refuses (Cx.ok C) h) (fun r8 M7 h => ?_)
    obtain ⟨g9, h⟩ := h
    obtain ⟨ht, hf⟩ := h
    refine g_if_lt (tgt := 28) C dX12_cut_21 (by decide) g9 (fun c => ?_) (fun c => ?_)
    · have h := ht c
      refine g_iconst C dX12_cut_28 rfl ?_
      refine G.sub [] rfl ?_
      exact w_X12_cut_J29 C hR  h
    · have h := hf c
      refine g_iconst C dX12_cut_24 rfl ?_
      refine g_goto (tgt := 29) C dX12_cut_25 (by decide) ?_
      refine G.sub [] rfl ?_
      exact w_X12_cut_J29 C hR  h
set_option maxRecDepth 20000 in
theorem w_X12_watch_J53 {Y : YT} {X : CX} (C : Cx Y X cX12_watch 3 RX12 3) {Q : Int → Mem → Prop} (hR : Rt Y X (some .boolean) (PQi Y Q)) {s0 : Int}  {M : Mem}  (h : m_X12_watch_J53  Q s0 M) : G Y X 3 53 [] ((vI s0) :: []) M := by
  unfold m_X12_watch_J53 at h
  obtain ⟨g1, h⟩ := h
  exact g_retz C hR dX12_watch_53 g1 h
set_option maxRecDepth 20000 in
theorem w_X12_watch_J40 {Y : YT} {X : CX} (C : Cx Y X cX12_watch 3 RX12 3) {Q : Int → Mem → Prop} (hR : Rt Y X (some .boolean) (PQi Y Q))   {M : Mem}  (h : m_X12_watch_J40  Q  M) : G Y X 3 40 [(0, vR Y 199)] ([]) M := by
  unfold m_X12_watch_J40 at h
  refine g_aload_n (q := 0) C dX12_watch_40 rfl rfl ?_
  refine g_iconst C dX12_watch_41 rfl ?_
  refine g_cVi (As := [vI 3]) C clX12_216 clvX12_refuses dX12_watch_42 kd_199 rfl (Nat.le_of_ble_eq_true rfl) rfl (by decide) (t_X12_refuses (Cx.ok C) h) (fun r3 M2 h => ?_)
  obtain ⟨g4, h⟩ := h
  obtain ⟨ht, hf⟩ := h
  refine g_if_lt (tgt := 52) C dX12_watch_45 (by decide) g4 (fun c => ?_) (fun c => ?_)
  · have h := ht c
    refine g_iconst C dX12_watch_52 rfl ?_
    refine G.sub [] rfl ?_
    exact w_X12_watch_J53 C hR  h
  · have h := hf c
    refine g_iconst C dX12_watch_48 rfl ?_
    refine g_goto (tgt := 53) C dX12_watch_49 (by decide) ?_
    refine G.sub [] rfl ?_
    exact w_X12_watch_J53 C hR  h
set_option maxRecDepth 20000 in
theorem w_X12_watch_J37 {Y : YT} {X : CX} (C : Cx Y X cX12_watch 3 RX12 3) {Q : Int → Mem → Prop} (hR : Rt Y X (some .boolean) (PQi Y Q)) {v1 : Int} {s0 : Int} {s1 : Int}  {M : Mem}  (h : m_X12_watch_J37  Q v1 s0 s1 M) : G Y X 3 37 [(0, vR Y 199), (1, vI v1)] ((vI s1) :: (vI s0) :: []) M := by
  unfold m_X12_watch_J37 at h
  obtain ⟨g5, h⟩ := h
  obtain ⟨g6, h⟩ := h
  obtain ⟨ht, hf⟩ := h
  refine g_icmp_ne (tgt := 54) C dX12_watch_37 (by decide) g5 g6 (fun c => ?_) (fun c => ?_)
  · have h := hf c
    refine g_aload_n (q := 0) C dX12_watch_54 rfl rfl ?_
    refine g_cVv (As := []) C clX12_503 clvX12_keeps dX12_watch_55 kd_199 rfl (Nat.le_of_ble_eq_true rfl) rfl (by decide) (t_X12_keeps (Cx.ok C) h) (fun M7 h => ?_)
    refine g_aload_n (q := 0) C dX12_watch_58 rfl rfl ?_
    refine g_getS (v := 229) C fX12_162 dX12_watch_59 kd_199 rfl ?_
    refine g_iconst C dX12_watch_62 rfl ?_
    refine g_dup2 C dX12_watch_63 rfl rfl ?_
    refine g_iald C dX12_watch_64 kd_229 ln_229 (by decide) ?_
    refine g_iconst C dX12_watch_65 rfl ?_
    refine g_iload_n (q := 1) C dX12_watch_66 rfl rfl ?_
    refine g_ishl C dX12_watch_67 ?_
    refine g_ixor C dX12_watch_68 ?_
    obtain ⟨M8, e_M8⟩ : ∃ z : Mem, z = up M7 229 0 (zxor (M7 229 0) (zshl 1 v1)) := ⟨_, rfl⟩
    have h := h M8 e_M8
    refine g_iast C dX12_watch_69 kd_229 ln_229 (by decide) e_M8 ?_
    refine g_iconst C dX12_watch_70 rfl ?_
    exact g_retz C hR dX12_watch_71 (by decide) h
  · have h := ht c
    refine G.sub [0] rfl ?_
    exact w_X12_watch_J40 C hR  h
set_option maxRecDepth 20000 in
theorem t_X12_watch {l : Launch} {Y : YT} (hY : YOK Y) {a0 : Int} {a1 : Int} {M : Mem} {Q : Int → Mem → Prop} (h : m_X12_watch a0 a1 M Q) : Ctr l Y yX12_watch cX12_watch 3 (some .boolean) 3 [vR Y 199, vI a0, vI a1] M (PQi Y Q) := by
  unfold m_X12_watch at h
  refine ctr_ofF hY (by decide +kernel) (Nat.le_of_ble_eq_true rfl) [(0, vR Y 199), (1, vI a0), (2, vI a1)] rfl (fun X hX C hR => ?_)
  refine g_aload_n (q := 0) C dX12_watch_0 rfl rfl ?_
  refine g_iload_n (q := 1) C dX12_watch_1 rfl rfl ?_
  refine g_cVi (As := [vI a0]) C clX12_473 clvX12_isPerson dX12_watch_2 kd_199 rfl (Nat.le_of_ble_eq_true rfl) rfl (by decide) (t_X12_isPerson (Cx.ok C) h) (fun r10 M9 h => ?_)
  obtain ⟨g11, h⟩ := h
  obtain ⟨ht, hf⟩ := h
  refine g_if_eq (tgt := 40) C dX12_watch_5 (by decide) g11 (fun c => ?_) (fun c => ?_)
  · have h := ht c
    refine G.sub [0] rfl ?_
    exact w_X12_watch_J40 C hR  h
  · have h := hf c
    refine g_iload_n (q := 2) C dX12_watch_8 rfl rfl ?_
    refine g_iconst C dX12_watch_9 rfl ?_
    refine g_iconst C dX12_watch_10 rfl ?_
    refine g_cSi (As := [vI a1, vI 0, vI 1]) C clX12_300 clsX12_is dX12_watch_11 rfl (Nat.le_of_ble_eq_true rfl) rfl (by decide) (t_X12_is (Cx.ok C) h) (fun r13 M12 h => ?_)
    obtain ⟨g14, h⟩ := h
    obtain ⟨ht, hf⟩ := h
    refine g_if_eq (tgt := 40) C dX12_watch_14 (by decide) g14 (fun c => ?_) (fun c => ?_)
    · have h := ht c
      refine G.sub [0] rfl ?_
      exact w_X12_watch_J40 C hR  h
    · have h := hf c
      refine g_aload_n (q := 0) C dX12_watch_17 rfl rfl ?_
      refine g_getS (v := 229) C fX12_162 dX12_watch_18 kd_199 rfl ?_
      refine g_iconst C dX12_watch_21 rfl ?_
      refine g_iald C dX12_watch_22 kd_229 ln_229 (by decide) ?_
      refine g_iload_n (q := 1) C dX12_watch_23 rfl rfl ?_
      refine g_cSi (As := [vI (M12 229 0), vI a0]) C clX12_342 clsX12_has2 dX12_watch_24 rfl (Nat.le_of_ble_eq_true rfl) rfl (by decide) (t_X12_has2 (Cx.ok C) h) (fun r16 M15 h => ?_)
      refine g_iload_n (q := 2) C dX12_watch_27 rfl rfl ?_
      refine g_iconst C dX12_watch_28 rfl ?_
      obtain ⟨g17, h⟩ := h
      obtain ⟨ht, hf⟩ := h
      refine g_icmp_ne (tgt := 36) C dX12_watch_29 (by decide) g17 (by decide) (fun c => ?_) (fun c => ?_)
      · have h := hf c
        refine g_iconst C dX12_watch_36 rfl ?_
        refine G.sub [0, 1] rfl ?_
        exact w_X12_watch_J37 C hR  h
      · have h := ht c
        refine g_iconst C dX12_watch_32 rfl ?_
        refine g_goto (tgt := 37) C dX12_watch_33 (by decide) ?_
        refine G.sub [0, 1] rfl ?_
        exact w_X12_watch_J37 C hR  h
set_option maxRecDepth 20000 in
theorem w_X12_send_J39 {Y : YT} {X : CX} (C : Cx Y X cX12_send 3 RX12 3) {Q : Int → Mem → Prop} (hR : Rt Y X (some .boolean) (PQi Y Q)) {s0 : Int}  {M : Mem}  (h : m_X12_send_J39  Q s0 M) : G Y X 3 39 [] ((vI s0) :: []) M := by
  unfold m_X12_send_J39 at h
  obtain ⟨g1, h⟩ := h
  exact g_retz C hR dX12_send_39 g1 h
set_option maxRecDepth 20000 in
theorem w_X12_send_J26 {Y : YT} {X : CX} (C : Cx Y X cX12_send 3 RX12 3) {Q : Int → Mem → Prop} (hR : Rt Y X (some .boolean) (PQi Y Q))   {M : Mem}  (h : m_X12_send_J26  Q  M) : G Y X 3 26 [(0, vR Y 199)] ([]) M := by
  unfold m_X12_send_J26 at h
  refine g_aload_n (q := 0) C dX12_send_26 rfl rfl ?_
  refine g_iconst C dX12_send_27 rfl ?_
  refine g_cVi (As := [vI 3]) C clX12_216 clvX12_refuses dX12_send_28 kd_199 rfl (Nat.le_of_ble_eq_true rfl) rfl (by decide) (t_X12_refuses (Cx.ok C) h) (fun r3 M2 h => ?_)
  obtain ⟨g4, h⟩ := h
  obtain ⟨ht, hf⟩ := h
  refine g_if_lt (tgt := 38) C dX12_send_31 (by decide) g4 (fun c => ?_) (fun c => ?_)
  · have h := ht c
    refine g_iconst C dX12_send_38 rfl ?_
    refine G.sub [] rfl ?_
    exact w_X12_send_J39 C hR  h
  · have h := hf c
    refine g_iconst C dX12_send_34 rfl ?_
    refine g_goto (tgt := 39) C dX12_send_35 (by decide) ?_
    refine G.sub [] rfl ?_
    exact w_X12_send_J39 C hR  h
set_option maxRecDepth 20000 in
theorem t_X12_send {l : Launch} {Y : YT} (hY : YOK Y) {a0 : Int} {a1 : Int} {M : Mem} {Q : Int → Mem → Prop} (h : m_X12_send a0 a1 M Q) : Ctr l Y yX12_send cX12_send 3 (some .boolean) 3 [vR Y 199, vI a0, vI a1] M (PQi Y Q) := by
  unfold m_X12_send at h
  refine ctr_ofF hY (by decide +kernel) (Nat.le_of_ble_eq_true rfl) [(0, vR Y 199), (1, vI a0), (2, vI a1)] rfl (fun X hX C hR => ?_)
  refine g_aload_n (q := 0) C dX12_send_0 rfl rfl ?_
  refine g_iload_n (q := 1) C dX12_send_1 rfl rfl ?_
  refine g_cVi (As := [vI a0]) C clX12_473 clvX12_isPerson dX12_send_2 kd_199 rfl (Nat.le_of_ble_eq_true rfl) rfl (by decide) (t_X12_isPerson (Cx.ok C) h) (fun r6 M5 h => ?_)
  obtain ⟨g7, h⟩ := h
  obtain ⟨ht, hf⟩ := h
  refine g_if_eq (tgt := 26) C dX12_send_5 (by decide) g7 (fun c => ?_) (fun c => ?_)
  · have h := ht c
    refine G.sub [0] rfl ?_
    exact w_X12_send_J26 C hR  h
  · have h := hf c
    refine g_aload_n (q := 0) C dX12_send_8 rfl rfl ?_
    refine g_iload_n (q := 2) C dX12_send_9 rfl rfl ?_
    refine g_cVi (As := [vI a1]) C clX12_470 clvX12_isPlace dX12_send_10 kd_199 rfl (Nat.le_of_ble_eq_true rfl) rfl (by decide) (t_X12_isPlace (Cx.ok C) h) (fun r9 M8 h => ?_)
    obtain ⟨g10, h⟩ := h
    obtain ⟨ht, hf⟩ := h
    refine g_if_eq (tgt := 26) C dX12_send_13 (by decide) g10 (fun c => ?_) (fun c => ?_)
    · have h := ht c
      refine G.sub [0] rfl ?_
      exact w_X12_send_J26 C hR  h
    · have h := hf c
      refine g_aload_n (q := 0) C dX12_send_16 rfl rfl ?_
      refine g_getS (v := 228) C fX12_159 dX12_send_17 kd_199 rfl ?_
      refine g_iload_n (q := 1) C dX12_send_20 rfl rfl ?_
      obtain ⟨g11, h⟩ := h
      refine g_iald C dX12_send_21 kd_228 ln_228 g11 ?_
      refine g_iload_n (q := 2) C dX12_send_22 rfl rfl ?_
      obtain ⟨g12, h⟩ := h
      obtain ⟨g13, h⟩ := h
      obtain ⟨ht, hf⟩ := h
      refine g_icmp_ne (tgt := 40) C dX12_send_23 (by decide) g12 g13 (fun c => ?_) (fun c => ?_)
      · have h := hf c
        refine g_aload_n (q := 0) C dX12_send_40 rfl rfl ?_
        refine g_cVv (As := []) C clX12_503 clvX12_keeps dX12_send_41 kd_199 rfl (Nat.le_of_ble_eq_true rfl) rfl (by decide) (t_X12_keeps (Cx.ok C) h) (fun M14 h => ?_)
        refine g_aload_n (q := 0) C dX12_send_44 rfl rfl ?_
        refine g_getS (v := 228) C fX12_159 dX12_send_45 kd_199 rfl ?_
        refine g_iload_n (q := 1) C dX12_send_48 rfl rfl ?_
        refine g_iload_n (q := 2) C dX12_send_49 rfl rfl ?_
        obtain ⟨g15, h⟩ := h
        obtain ⟨M16, e_M16⟩ : ∃ z : Mem, z = up M14 228 a0 a1 := ⟨_, rfl⟩
        have h := h M16 e_M16
        refine g_iast C dX12_send_50 kd_228 ln_228 g15 e_M16 ?_
        refine g_iconst C dX12_send_51 rfl ?_
        exact g_retz C hR dX12_send_52 (by decide) h
      · have h := ht c
        refine G.sub [0] rfl ?_
        exact w_X12_send_J26 C hR  h
set_option maxRecDepth 20000 in
theorem w_X12_seed_J17 {Y : YT} {X : CX} (C : Cx Y X cX12_seed 2 RX12 2) {Q : Int → Mem → Prop} (hR : Rt Y X (some .boolean) (PQi Y Q)) {s0 : Int}  {M : Mem}  (h : m_X12_seed_J17  Q s0 M) : G Y X 2 17 [] ((vI s0) :: []) M := by
  unfold m_X12_seed_J17 at h
  obtain ⟨g1, h⟩ := h
  exact g_retz C hR dX12_seed_17 g1 h
set_option maxRecDepth 20000 in
theorem t_X12_seed {l : Launch} {Y : YT} (hY : YOK Y) {a0 : Int} {M : Mem} {Q : Int → Mem → Prop} (h : m_X12_seed a0 M Q) : Ctr l Y yX12_seed cX12_seed 2 (some .boolean) 2 [vR Y 199, vI a0] M (PQi Y Q) := by
  unfold m_X12_seed at h
  refine ctr_ofF hY (by decide +kernel) (Nat.le_of_ble_eq_true rfl) [(0, vR Y 199), (1, vI a0)] rfl (fun X hX C hR => ?_)
  refine g_iload_n (q := 1) C dX12_seed_0 rfl rfl ?_
  obtain ⟨g2, h⟩ := h
  obtain ⟨ht, hf⟩ := h
  refine g_if_ge (tgt := 18) C dX12_seed_1 (by decide) g2 (fun c => ?_) (fun c => ?_)
  · have h := ht c
    refine g_aload_n (q := 0) C dX12_seed_18 rfl rfl ?_
    refine g_iload_n (q := 1) C dX12_seed_19 rfl rfl ?_
    obtain ⟨g3, h⟩ := h
    refine g_i2l C dX12_seed_20 g3 ?_
    obtain ⟨M4, e_M4⟩ : ∃ z : Mem, z = up M 199 56 a0 := ⟨_, rfl⟩
    have h := h M4 e_M4
    refine g_putJ C fX12_183 pX12_183 dX12_seed_21 kd_199 e_M4 ?_
    refine g_iconst C dX12_seed_24 rfl ?_
    exact g_retz C hR dX12_seed_25 (by decide) h
  · have h := hf c
    refine g_aload_n (q := 0) C dX12_seed_4 rfl rfl ?_
    refine g_iconst C dX12_seed_5 rfl ?_
    refine g_cVi (As := [vI 5]) C clX12_216 clvX12_refuses dX12_seed_6 kd_199 rfl (Nat.le_of_ble_eq_true rfl) rfl (by decide) (t_X12_refuses (Cx.ok C) h) (fun r6 M5 h => ?_)
    obtain ⟨g7, h⟩ := h
    obtain ⟨ht, hf⟩ := h
    refine g_if_lt (tgt := 16) C dX12_seed_9 (by decide) g7 (fun c => ?_) (fun c => ?_)
    · have h := ht c
      refine g_iconst C dX12_seed_16 rfl ?_
      refine G.sub [] rfl ?_
      exact w_X12_seed_J17 C hR  h
    · have h := hf c
      refine g_iconst C dX12_seed_12 rfl ?_
      refine g_goto (tgt := 17) C dX12_seed_13 (by decide) ?_
      refine G.sub [] rfl ?_
      exact w_X12_seed_J17 C hR  h
set_option maxRecDepth 20000 in
theorem w_X12_kept_J39 {Y : YT} {X : CX} (C : Cx Y X cX12_kept 3 RX12 2) {Q : Int → Mem → Prop} (hR : Rt Y X (some .int) (PQi Y Q)) {s0 : Int}  {M : Mem}  (h : m_X12_kept_J39  Q s0 M) : G Y X 3 39 [] ((vI s0) :: []) M := by
  unfold m_X12_kept_J39 at h
  exact g_reti C hR dX12_kept_39 h
set_option maxRecDepth 20000 in
theorem w_X12_kept_J38 {Y : YT} {X : CX} (C : Cx Y X cX12_kept 3 RX12 2) {Q : Int → Mem → Prop} (hR : Rt Y X (some .int) (PQi Y Q))   {M : Mem}  (h : m_X12_kept_J38  Q  M) : G Y X 3 38 [] ([]) M := by
  unfold m_X12_kept_J38 at h
  refine g_iconst C dX12_kept_38 rfl ?_
  refine G.sub [] rfl ?_
  exact w_X12_kept_J39 C hR  h
set_option maxRecDepth 20000 in
theorem t_X12_kept {l : Launch} {Y : YT} (hY : YOK Y) {a0 : Int} {a1 : Int} {M : Mem} {Q : Int → Mem → Prop} (h : m_X12_kept a0 a1 M Q) : Ctr l Y yX12_kept cX12_kept 3 (some .int) 2 [vR Y 199, vI a0, vI a1] M (PQi Y Q) := by
  unfold m_X12_kept at h
  refine ctr_ofF hY (by decide +kernel) (Nat.le_of_ble_eq_true rfl) [(0, vR Y 199), (1, vI a0), (2, vI a1)] rfl (fun X hX C hR => ?_)
  refine g_iload_n (q := 1) C dX12_kept_0 rfl rfl ?_
  refine g_iconst C dX12_kept_1 rfl ?_
  refine g_aload_n (q := 0) C dX12_kept_2 rfl rfl ?_
  refine g_getS (v := 232) C fX12_171 dX12_kept_3 kd_199 rfl ?_
  refine g_iconst C dX12_kept_6 rfl ?_
  refine g_iald C dX12_kept_7 kd_232 ln_232 (by decide) ?_
  refine g_iconst C dX12_kept_8 rfl ?_
  refine g_isub C dX12_kept_9 ?_
  refine g_cSi (As := [vI a0, vI 0, vI ((M 232 0) - 1)]) C clX12_300 clsX12_is dX12_kept_10 rfl (Nat.le_of_ble_eq_true rfl) rfl (by decide) (t_X12_is (Cx.ok C) h) (fun r2 M1 h => ?_)
  obtain ⟨g3, h⟩ := h
  obtain ⟨ht, hf⟩ := h
  refine g_if_eq (tgt := 38) C dX12_kept_13 (by decide) g3 (fun c => ?_) (fun c => ?_)
  · have h := ht c
    refine G.sub [] rfl ?_
    exact w_X12_kept_J38 C hR  h
  · have h := hf c
    refine g_iload_n (q := 2) C dX12_kept_16 rfl rfl ?_
    refine g_iconst C dX12_kept_17 rfl ?_
    refine g_iconst C dX12_kept_18 rfl ?_
    refine g_cSi (As := [vI a1, vI 0, vI 2]) C clX12_300 clsX12_is dX12_kept_19 rfl (Nat.le_of_ble_eq_true rfl) rfl (by decide) (t_X12_is (Cx.ok C) h) (fun r5 M4 h => ?_)
    obtain ⟨g6, h⟩ := h
    obtain ⟨ht, hf⟩ := h
    refine g_if_eq (tgt := 38) C dX12_kept_22 (by decide) g6 (fun c => ?_) (fun c => ?_)
    · have h := ht c
      refine G.sub [] rfl ?_
      exact w_X12_kept_J38 C hR  h
    · have h := hf c
      refine g_aload_n (q := 0) C dX12_kept_25 rfl rfl ?_
      refine g_getS (v := 233) C fX12_174 dX12_kept_26 kd_199 rfl ?_
      refine g_iconst C dX12_kept_29 rfl ?_
      refine g_iload_n (q := 1) C dX12_kept_30 rfl rfl ?_
      refine g_imul C dX12_kept_31 ?_
      refine g_iload_n (q := 2) C dX12_kept_32 rfl rfl ?_
      refine g_iadd C dX12_kept_33 ?_
      obtain ⟨g7, h⟩ := h
      refine g_iald C dX12_kept_34 kd_233 ln_233 g7 ?_
      refine g_goto (tgt := 39) C dX12_kept_35 (by decide) ?_
      refine G.sub [] rfl ?_
      exact w_X12_kept_J39 C hR  h
set_option maxRecDepth 20000 in
theorem t_X12_writes {l : Launch} {Y : YT} (hY : YOK Y) {a0 : Int} {M : Mem} {Q : Mem → Prop} (h : m_X12_writes a0 M Q) : Ctr l Y yX12_writes cX12_writes 2 none 1 [vR Y 199, vI a0] M (PQv Y Q) := by
  unfold m_X12_writes at h
  refine ctr_ofF hY (by decide +kernel) (Nat.le_of_ble_eq_true rfl) [(0, vR Y 199), (1, vI a0)] rfl (fun X hX C hR => ?_)
  refine g_aload_n (q := 0) C dX12_writes_0 rfl rfl ?_
  refine g_getS (v := 241) C fX12_210 dX12_writes_1 kd_199 rfl ?_
  refine g_aload_n (q := 0) C dX12_writes_4 rfl rfl ?_
  refine g_getI C fX12_213 (by decide) dX12_writes_5 kd_199 ?_
  refine g_iload_n (q := 1) C dX12_writes_8 rfl rfl ?_
  refine g_sipush (v := 255) C dX12_writes_9 (by decide +kernel) ?_
  refine g_iand C dX12_writes_12 ?_
  obtain ⟨g1, h⟩ := h
  obtain ⟨M2, e_M2⟩ : ∃ z : Mem, z = up M 241 (M 199 66) (zand a0 255) := ⟨_, rfl⟩
  have h := h M2 e_M2
  refine g_iast C dX12_writes_13 kd_241 ln_241 g1 e_M2 ?_
  refine g_aload_n (q := 0) C dX12_writes_14 rfl rfl ?_
  refine g_dup C dX12_writes_15 rfl ?_
  refine g_getI C fX12_213 (by decide) dX12_writes_16 kd_199 ?_
  refine g_iconst C dX12_writes_19 rfl ?_
  refine g_iadd C dX12_writes_20 ?_
  obtain ⟨M3, e_M3⟩ : ∃ z : Mem, z = up M2 199 66 ((M2 199 66) + 1) := ⟨_, rfl⟩
  have h := h M3 e_M3
  refine g_putI C fX12_213 pX12_213 dX12_writes_21 kd_199 e_M3 ?_
  exact g_retv C hR dX12_writes_24 h
set_option maxRecDepth 20000 in
theorem w_X12_image_L127 {Y : YT} {X : CX} (C : Cx Y X cX12_image 3 RX12 2) {Q : Int → Mem → Prop} (hR : Rt Y X (some .int) (PQi Y Q))   : ∀ (f : Nat) (v1 : Int) (v2 : Int) (M : Mem), m_X12_image_L127  Q f v1 v2 M → G Y X 3 127 [(0, vR Y 199), (1, vI v1), (2, vI v2)] ([]) M := by
  intro f
  induction f with
  | zero =>
    intro v1 v2 M h
    exact (show False from h).elim
  | succ f ih =>
    intro v1 v2 M h
    unfold m_X12_image_L127 at h
    refine g_iload_n (q := 2) C dX12_image_127 rfl rfl ?_
    refine g_aload_n (q := 0) C dX12_image_128 rfl rfl ?_
    refine g_getI C fX12_213 (by decide) dX12_image_129 kd_199 ?_
    obtain ⟨g1, h⟩ := h
    obtain ⟨g2, h⟩ := h
    obtain ⟨ht, hf⟩ := h
    refine g_icmp_ge (tgt := 156) C dX12_image_132 (by decide) g1 g2 (fun c => ?_) (fun c => ?_)
    · have h := ht c
      refine g_aload_n (q := 0) C dX12_image_156 rfl rfl ?_
      refine g_iload_n (q := 1) C dX12_image_157 rfl rfl ?_
      refine g_cVv (As := [vI v1]) C clX12_517 clvX12_writes dX12_image_158 kd_199 rfl (Nat.le_of_ble_eq_true rfl) rfl (by decide) (t_X12_writes (Cx.ok C) h) (fun M3 h => ?_)
      refine g_aload_n (q := 0) C dX12_image_161 rfl rfl ?_
      refine g_getI C fX12_213 (by decide) dX12_image_162 kd_199 ?_
      exact g_reti C hR dX12_image_165 h
    · have h := hf c
      refine g_iconst C dX12_image_135 rfl ?_
      refine g_iload_n (q := 1) C dX12_image_136 rfl rfl ?_
      refine g_imul C dX12_image_137 ?_
      refine g_aload_n (q := 0) C dX12_image_138 rfl rfl ?_
      refine g_getS (v := 241) C fX12_210 dX12_image_139 kd_199 rfl ?_
      refine g_iload_n (q := 2) C dX12_image_142 rfl rfl ?_
      obtain ⟨g4, h⟩ := h
      refine g_iald C dX12_image_143 kd_241 ln_241 g4 ?_
      refine g_iadd C dX12_image_144 ?_
      refine g_sipush (v := 251) C dX12_image_145 (by decide +kernel) ?_
      obtain ⟨g5, h⟩ := h
      refine g_irem C dX12_image_148 g5 (by decide) (by decide) ?_
      obtain ⟨x6, e_x6⟩ : ∃ z : Int, z = ((5 * v1) + (M 241 v2)).tmod 251 := ⟨_, rfl⟩
      have h := h x6 e_x6
      refine G.nmI e_x6 ?_
      refine g_istore_n (lv' := [(1, vI x6), (0, vR Y 199), (2, vI v2)]) C dX12_image_149 rfl (by decide) rfl ?_
      refine g_iinc (q := 2) (v := v2 + 1) (lv' := [(2, vI (v2 + 1)), (1, vI x6), (0, vR Y 199)]) C dX12_image_150 rfl rfl (by decide) rfl ?_
      refine g_goto (tgt := 127) C dX12_image_153 (by decide) ?_
      refine G.sub [2, 1, 0] rfl ?_
      exact ih _ _ _ h
set_option maxRecDepth 20000 in
theorem w_X12_image_L93 {Y : YT} {X : CX} (C : Cx Y X cX12_image 3 RX12 2) {Q : Int → Mem → Prop} (hR : Rt Y X (some .int) (PQi Y Q))   : ∀ (f : Nat) (v1 : Int) (M : Mem), m_X12_image_L93  Q f v1 M → G Y X 3 93 [(0, vR Y 199), (1, vI v1)] ([]) M := by
  intro f
  induction f with
  | zero =>
    intro v1 M h
    exact (show False from h).elim
  | succ f ih =>
    intro v1 M h
    unfold m_X12_image_L93 at h
    refine g_iload_n (q := 1) C dX12_image_93 rfl rfl ?_
    refine g_iconst C dX12_image_94 rfl ?_
    refine g_aload_n (q := 0) C dX12_image_95 rfl rfl ?_
    refine g_getS (v := 230) C fX12_165 dX12_image_96 kd_199 rfl ?_
    refine g_iconst C dX12_image_99 rfl ?_
    refine g_iald C dX12_image_100 kd_230 ln_230 (by decide) ?_
    refine g_imul C dX12_image_101 ?_
    obtain ⟨g7, h⟩ := h
    obtain ⟨g8, h⟩ := h
    obtain ⟨ht, hf⟩ := h
    refine g_icmp_ge (tgt := 121) C dX12_image_102 (by decide) g7 g8 (fun c => ?_) (fun c => ?_)
    · have h := ht c
      refine g_sipush (v := 193) C dX12_image_121 (by decide +kernel) ?_
      refine g_istore_n (lv' := [(1, vI 193), (0, vR Y 199)]) C dX12_image_124 rfl (by decide) rfl ?_
      refine g_iconst C dX12_image_125 rfl ?_
      refine g_istore_n (lv' := [(2, vI 0), (1, vI 193), (0, vR Y 199)]) C dX12_image_126 rfl (by decide) rfl ?_
      obtain ⟨f0, h⟩ := h
      refine G.sub [2, 1, 0] rfl ?_
      exact w_X12_image_L127 C hR  f0 _ _ _ h
    · have h := hf c
      refine g_aload_n (q := 0) C dX12_image_105 rfl rfl ?_
      refine g_aload_n (q := 0) C dX12_image_106 rfl rfl ?_
      refine g_getS (v := 231) C fX12_168 dX12_image_107 kd_199 rfl ?_
      refine g_iload_n (q := 1) C dX12_image_110 rfl rfl ?_
      obtain ⟨g9, h⟩ := h
      refine g_iald C dX12_image_111 kd_231 ln_231 g9 ?_
      refine g_cVv (As := [vI (M 231 v1)]) C clX12_517 clvX12_writes dX12_image_112 kd_199 rfl (Nat.le_of_ble_eq_true rfl) rfl (by decide) (t_X12_writes (Cx.ok C) h) (fun M10 h => ?_)
      refine g_iinc (q := 1) (v := v1 + 1) (lv' := [(1, vI (v1 + 1)), (0, vR Y 199)]) C dX12_image_115 rfl rfl (by decide) rfl ?_
      refine g_goto (tgt := 93) C dX12_image_118 (by decide) ?_
      refine G.sub [1, 0] rfl ?_
      exact ih _ _ h
set_option maxRecDepth 20000 in
theorem w_X12_image_J72 {Y : YT} {X : CX} (C : Cx Y X cX12_image 3 RX12 2) {Q : Int → Mem → Prop} (hR : Rt Y X (some .int) (PQi Y Q)) {v1 : Int} {s1 : Int} {k30 : Int → Mem → Prop} (hk30 : ∀ (v1 : Int)  (M : Mem), k30 v1 M → G Y X 3 30 [(0, vR Y 199), (1, vI v1)] ([]) M) {M : Mem}  (h : m_X12_image_J72 k30 Q v1 s1 M) : G Y X 3 72 [(0, vR Y 199), (1, vI v1)] ((vI s1) :: (vR Y 199) :: []) M := by
  unfold m_X12_image_J72 at h
  refine g_cVv (As := [vI s1]) C clX12_517 clvX12_writes dX12_image_72 kd_199 rfl (Nat.le_of_ble_eq_true rfl) rfl (by decide) (t_X12_writes (Cx.ok C) h) (fun M11 h => ?_)
  refine g_iinc (q := 1) (v := v1 + 1) (lv' := [(1, vI (v1 + 1)), (0, vR Y 199)]) C dX12_image_75 rfl rfl (by decide) rfl ?_
  refine g_goto (tgt := 30) C dX12_image_78 (by decide) ?_
  refine G.sub [1, 0] rfl ?_
  exact hk30 _ _ h
set_option maxRecDepth 20000 in
theorem w_X12_image_L30 {Y : YT} {X : CX} (C : Cx Y X cX12_image 3 RX12 2) {Q : Int → Mem → Prop} (hR : Rt Y X (some .int) (PQi Y Q))   : ∀ (f : Nat) (v1 : Int) (M : Mem), m_X12_image_L30  Q f v1 M → G Y X 3 30 [(0, vR Y 199), (1, vI v1)] ([]) M := by
  intro f
  induction f with
  | zero =>
    intro v1 M h
    exact (show False from h).elim
  | succ f ih =>
    intro v1 M h
    unfold m_X12_image_L30 at h
    refine g_iload_n (q := 1) C dX12_image_30 rfl rfl ?_
    refine g_aload_n (q := 0) C dX12_image_31 rfl rfl ?_
    refine g_getS (v := 205) C fX12_66 dX12_image_32 kd_199 rfl ?_
    refine g_aload_n (q := 0) C dX12_image_35 rfl rfl ?_
    refine g_getI C fX12_51 (by decide) dX12_image_36 kd_199 ?_
    obtain ⟨g12, h⟩ := h
    refine g_iald C dX12_image_39 kd_205 ln_205 g12 ?_
    obtain ⟨g13, h⟩ := h
    obtain ⟨g14, h⟩ := h
    obtain ⟨ht, hf⟩ := h
    refine g_icmp_ge (tgt := 81) C dX12_image_40 (by decide) g13 g14 (fun c => ?_) (fun c => ?_)
    · have h := ht c
      refine g_aload_n (q := 0) C dX12_image_81 rfl rfl ?_
      refine g_aload_n (q := 0) C dX12_image_82 rfl rfl ?_
      refine g_getS (v := 230) C fX12_165 dX12_image_83 kd_199 rfl ?_
      refine g_iconst C dX12_image_86 rfl ?_
      refine g_iald C dX12_image_87 kd_230 ln_230 (by decide) ?_
      refine g_cVv (As := [vI (M 230 0)]) C clX12_517 clvX12_writes dX12_image_88 kd_199 rfl (Nat.le_of_ble_eq_true rfl) rfl (by decide) (t_X12_writes (Cx.ok C) h) (fun M15 h => ?_)
      refine g_iconst C dX12_image_91 rfl ?_
      refine g_istore_n (lv' := [(1, vI 0), (0, vR Y 199)]) C dX12_image_92 rfl (by decide) rfl ?_
      obtain ⟨f0, h⟩ := h
      refine G.sub [1, 0] rfl ?_
      exact w_X12_image_L93 C hR  f0 _ _ h
    · have h := hf c
      refine g_aload_n (q := 0) C dX12_image_43 rfl rfl ?_
      refine g_aload_n (q := 0) C dX12_image_44 rfl rfl ?_
      refine g_getS (v := 228) C fX12_159 dX12_image_45 kd_199 rfl ?_
      refine g_iload_n (q := 1) C dX12_image_48 rfl rfl ?_
      obtain ⟨g16, h⟩ := h
      refine g_iald C dX12_image_49 kd_228 ln_228 g16 ?_
      refine g_cVv (As := [vI (M 228 v1)]) C clX12_517 clvX12_writes dX12_image_50 kd_199 rfl (Nat.le_of_ble_eq_true rfl) rfl (by decide) (t_X12_writes (Cx.ok C) h) (fun M17 h => ?_)
      refine g_aload_n (q := 0) C dX12_image_53 rfl rfl ?_
      refine g_aload_n (q := 0) C dX12_image_54 rfl rfl ?_
      refine g_getS (v := 229) C fX12_162 dX12_image_55 kd_199 rfl ?_
      refine g_iconst C dX12_image_58 rfl ?_
      refine g_iald C dX12_image_59 kd_229 ln_229 (by decide) ?_
      refine g_iload_n (q := 1) C dX12_image_60 rfl rfl ?_
      refine g_cSi (As := [vI (M17 229 0), vI v1]) C clX12_342 clsX12_has2 dX12_image_61 rfl (Nat.le_of_ble_eq_true rfl) rfl (by decide) (t_X12_has2 (Cx.ok C) h) (fun r19 M18 h => ?_)
      obtain ⟨g20, h⟩ := h
      obtain ⟨ht, hf⟩ := h
      refine g_if_eq (tgt := 71) C dX12_image_64 (by decide) g20 (fun c => ?_) (fun c => ?_)
      · have h := ht c
        refine g_iconst C dX12_image_71 rfl ?_
        refine G.sub [0, 1] rfl ?_
        exact w_X12_image_J72 C hR (ih)  h
      · have h := hf c
        refine g_iconst C dX12_image_67 rfl ?_
        refine g_goto (tgt := 72) C dX12_image_68 (by decide) ?_
        refine G.sub [0, 1] rfl ?_
        exact w_X12_image_J72 C hR (ih)  h
set_option maxRecDepth 20000 in
theorem t_X12_image {l : Launch} {Y : YT} (hY : YOK Y) {M : Mem} {Q : Int → Mem → Prop} (h : m_X12_image  M Q) : Ctr l Y yX12_image cX12_image 3 (some .int) 2 [vR Y 199] M (PQi Y Q) := by
  unfold m_X12_image at h
  refine ctr_ofF hY (by decide +kernel) (Nat.le_of_ble_eq_true rfl) [(0, vR Y 199)] rfl (fun X hX C hR => ?_)
  refine g_aload_n (q := 0) C dX12_image_0 rfl rfl ?_
  refine g_iconst C dX12_image_1 rfl ?_
  obtain ⟨M21, e_M21⟩ : ∃ z : Mem, z = up M 199 66 0 := ⟨_, rfl⟩
  have h := h M21 e_M21
  refine g_putI C fX12_213 pX12_213 dX12_image_2 kd_199 e_M21 ?_
  refine g_aload_n (q := 0) C dX12_image_5 rfl rfl ?_
  refine g_aload_n (q := 0) C dX12_image_6 rfl rfl ?_
  refine g_getS (v := 227) C fX12_156 dX12_image_7 kd_199 rfl ?_
  refine g_iconst C dX12_image_10 rfl ?_
  refine g_iald C dX12_image_11 kd_227 ln_227 (by decide) ?_
  refine g_bipush (v := 8) C dX12_image_12 (by decide +kernel) ?_
  refine g_ishr C dX12_image_14 ?_
  refine g_cVv (As := [vI (zshr (M21 227 0) 8)]) C clX12_517 clvX12_writes dX12_image_15 kd_199 rfl (Nat.le_of_ble_eq_true rfl) rfl (by decide) (t_X12_writes (Cx.ok C) h) (fun M22 h => ?_)
  refine g_aload_n (q := 0) C dX12_image_18 rfl rfl ?_
  refine g_aload_n (q := 0) C dX12_image_19 rfl rfl ?_
  refine g_getS (v := 227) C fX12_156 dX12_image_20 kd_199 rfl ?_
  refine g_iconst C dX12_image_23 rfl ?_
  refine g_iald C dX12_image_24 kd_227 ln_227 (by decide) ?_
  refine g_cVv (As := [vI (M22 227 0)]) C clX12_517 clvX12_writes dX12_image_25 kd_199 rfl (Nat.le_of_ble_eq_true rfl) rfl (by decide) (t_X12_writes (Cx.ok C) h) (fun M23 h => ?_)
  refine g_iconst C dX12_image_28 rfl ?_
  refine g_istore_n (lv' := [(1, vI 0), (0, vR Y 199)]) C dX12_image_29 rfl (by decide) rfl ?_
  obtain ⟨f0, h⟩ := h
  refine G.sub [1, 0] rfl ?_
  exact w_X12_image_L30 C hR  f0 _ _ h
set_option maxRecDepth 20000 in
theorem w_X12_octet_J24 {Y : YT} {X : CX} (C : Cx Y X cX12_octet 2 RX12 2) {Q : Int → Mem → Prop} (hR : Rt Y X (some .int) (PQi Y Q)) {s0 : Int}  {M : Mem}  (h : m_X12_octet_J24  Q s0 M) : G Y X 2 24 [] ((vI s0) :: []) M := by
  unfold m_X12_octet_J24 at h
  exact g_reti C hR dX12_octet_24 h
set_option maxRecDepth 20000 in
theorem t_X12_octet {l : Launch} {Y : YT} (hY : YOK Y) {a0 : Int} {M : Mem} {Q : Int → Mem → Prop} (h : m_X12_octet a0 M Q) : Ctr l Y yX12_octet cX12_octet 2 (some .int) 2 [vR Y 199, vI a0] M (PQi Y Q) := by
  unfold m_X12_octet at h
  refine ctr_ofF hY (by decide +kernel) (Nat.le_of_ble_eq_true rfl) [(0, vR Y 199), (1, vI a0)] rfl (fun X hX C hR => ?_)
  refine g_iload_n (q := 1) C dX12_octet_0 rfl rfl ?_
  refine g_iconst C dX12_octet_1 rfl ?_
  refine g_aload_n (q := 0) C dX12_octet_2 rfl rfl ?_
  refine g_getI C fX12_213 (by decide) dX12_octet_3 kd_199 ?_
  refine g_iconst C dX12_octet_6 rfl ?_
  refine g_isub C dX12_octet_7 ?_
  refine g_cSi (As := [vI a0, vI 0, vI ((M 199 66) - 1)]) C clX12_300 clsX12_is dX12_octet_8 rfl (Nat.le_of_ble_eq_true rfl) rfl (by decide) (t_X12_is (Cx.ok C) h) (fun r2 M1 h => ?_)
  obtain ⟨g3, h⟩ := h
  obtain ⟨ht, hf⟩ := h
  refine g_if_eq (tgt := 23) C dX12_octet_11 (by decide) g3 (fun c => ?_) (fun c => ?_)
  · have h := ht c
    refine g_iconst C dX12_octet_23 rfl ?_
    refine G.sub [] rfl ?_
    exact w_X12_octet_J24 C hR  h
  · have h := hf c
    refine g_aload_n (q := 0) C dX12_octet_14 rfl rfl ?_
    refine g_getS (v := 241) C fX12_210 dX12_octet_15 kd_199 rfl ?_
    refine g_iload_n (q := 1) C dX12_octet_18 rfl rfl ?_
    obtain ⟨g4, h⟩ := h
    refine g_iald C dX12_octet_19 kd_241 ln_241 g4 ?_
    refine g_goto (tgt := 24) C dX12_octet_20 (by decide) ?_
    refine G.sub [] rfl ?_
    exact w_X12_octet_J24 C hR  h
set_option maxRecDepth 20000 in
theorem w_X12_comesOn_J367 {Y : YT} {X : CX} (C : Cx Y X cX12_comesOn 6 RX12 2) {Q : Int → Mem → Prop} (hR : Rt Y X (some .boolean) (PQi Y Q))   {M : Mem}  (h : m_X12_comesOn_J367  Q  M) : G Y X 6 367 [] ([]) M := by
  unfold m_X12_comesOn_J367 at h
  refine g_iconst C dX12_comesOn_367 rfl ?_
  exact g_retz C hR dX12_comesOn_368 (by decide) h
set_option maxRecDepth 20000 in
theorem w_X12_comesOn_L275 {Y : YT} {X : CX} (C : Cx Y X cX12_comesOn 6 RX12 2) {Q : Int → Mem → Prop} (hR : Rt Y X (some .boolean) (PQi Y Q)) {v2 : Int}  : ∀ (f : Nat) (v4 : Int) (M : Mem), m_X12_comesOn_L275  Q v2 f v4 M → G Y X 6 275 [(0, vR Y 199), (2, vI v2), (4, vI v4)] ([]) M := by
  intro f
  induction f with
  | zero =>
    intro v4 M h
    exact (show False from h).elim
  | succ f ih =>
    intro v4 M h
    unfold m_X12_comesOn_L275 at h
    refine g_iload (q := 2) C dX12_comesOn_275 rfl ?_
    refine g_aload_n (q := 0) C dX12_comesOn_277 rfl rfl ?_
    refine g_getS (v := 200) C fX12_7 dX12_comesOn_278 kd_199 rfl ?_
    refine g_iload_n (q := 1) C dX12_comesOn_281 rfl rfl ?_
    obtain ⟨g1, h⟩ := h
    refine g_iald C dX12_comesOn_282 kd_200 ln_200 g1 ?_
    obtain ⟨g2, h⟩ := h
    obtain ⟨g3, h⟩ := h
    obtain ⟨ht, hf⟩ := h
    refine g_icmp_ge (tgt := 405) C dX12_comesOn_283 (by decide) g2 g3 (fun c => ?_) (fun c => ?_)
    · have h := ht c
      refine g_iconst C dX12_comesOn_405 rfl ?_
      exact g_retz C hR dX12_comesOn_406 (by decide) h
    · have h := hf c
      refine g_iload_n (q := 1) C dX12_comesOn_286 rfl rfl ?_
      refine g_iconst C dX12_comesOn_287 rfl ?_
      refine g_iadd C dX12_comesOn_288 ?_
      refine g_iconst C dX12_comesOn_289 rfl ?_
      refine g_iload (q := 2) C dX12_comesOn_290 rfl ?_
      refine g_imul C dX12_comesOn_292 ?_
      refine g_iadd C dX12_comesOn_293 ?_
      refine g_istore (lv' := [(5, vI ((v2 + 1) + (3 * v4))), (0, vR Y 199), (2, vI v2), (4, vI v4)]) C dX12_comesOn_294 (by decide) rfl ?_
      refine g_aload_n (q := 1) C dX12_comesOn_296 rfl rfl ?_
      refine g_getS (v := 200) C fX12_7 dX12_comesOn_297 kd_199 rfl ?_
      refine g_iload (q := 0) C dX12_comesOn_300 rfl ?_
      obtain ⟨g4, h⟩ := h
      refine g_iald C dX12_comesOn_302 kd_200 ln_200 g4 ?_
      refine g_iconst C dX12_comesOn_303 rfl ?_
      refine g_bipush (v := 8) C dX12_comesOn_304 (by decide +kernel) ?_
      refine g_cSi (As := [vI (M 200 ((v2 + 1) + (3 * v4))), vI 1, vI 8]) C clX12_300 clsX12_is dX12_comesOn_306 rfl (Nat.le_of_ble_eq_true rfl) rfl (by decide) (t_X12_is (Cx.ok C) h) (fun r6 M5 h => ?_)
      obtain ⟨g7, h⟩ := h
      obtain ⟨ht, hf⟩ := h
      refine g_if_eq (tgt := 367) C dX12_comesOn_309 (by decide) g7 (fun c => ?_) (fun c => ?_)
      · have h := ht c
        refine G.sub [] rfl ?_
        exact w_X12_comesOn_J367 C hR  h
      · have h := hf c
        refine g_aload_n (q := 1) C dX12_comesOn_312 rfl rfl ?_
        refine g_aload_n (q := 1) C dX12_comesOn_313 rfl rfl ?_
        refine g_getS (v := 200) C fX12_7 dX12_comesOn_314 kd_199 rfl ?_
        refine g_iload (q := 0) C dX12_comesOn_317 rfl ?_
        refine g_iconst C dX12_comesOn_319 rfl ?_
        refine g_iadd C dX12_comesOn_320 ?_
        obtain ⟨g8, h⟩ := h
        refine g_iald C dX12_comesOn_321 kd_200 ln_200 g8 ?_
        refine g_cVi (As := [vI (M5 200 (((v2 + 1) + (3 * v4)) + 1))]) C clX12_470 clvX12_isPlace dX12_comesOn_322 kd_199 rfl (Nat.le_of_ble_eq_true rfl) rfl (by decide) (t_X12_isPlace (Cx.ok C) h) (fun r10 M9 h => ?_)
        obtain ⟨g11, h⟩ := h
        obtain ⟨ht, hf⟩ := h
        refine g_if_eq (tgt := 367) C dX12_comesOn_325 (by decide) g11 (fun c => ?_) (fun c => ?_)
        · have h := ht c
          refine G.sub [] rfl ?_
          exact w_X12_comesOn_J367 C hR  h
        · have h := hf c
          refine g_aload_n (q := 1) C dX12_comesOn_328 rfl rfl ?_
          refine g_getS (v := 200) C fX12_7 dX12_comesOn_329 kd_199 rfl ?_
          refine g_iload (q := 0) C dX12_comesOn_332 rfl ?_
          refine g_iconst C dX12_comesOn_334 rfl ?_
          refine g_iadd C dX12_comesOn_335 ?_
          obtain ⟨g12, h⟩ := h
          refine g_iald C dX12_comesOn_336 kd_200 ln_200 g12 ?_
          refine g_bipush (v := 6) C dX12_comesOn_337 (by decide +kernel) ?_
          obtain ⟨g13, h⟩ := h
          obtain ⟨ht, hf⟩ := h
          refine g_icmp_gt (tgt := 367) C dX12_comesOn_339 (by decide) g13 (by decide) (fun c => ?_) (fun c => ?_)
          · have h := ht c
            refine G.sub [] rfl ?_
            exact w_X12_comesOn_J367 C hR  h
          · have h := hf c
            refine g_aload_n (q := 1) C dX12_comesOn_342 rfl rfl ?_
            refine g_iconst C dX12_comesOn_343 rfl ?_
            refine g_aload_n (q := 1) C dX12_comesOn_344 rfl rfl ?_
            refine g_getS (v := 200) C fX12_7 dX12_comesOn_345 kd_199 rfl ?_
            refine g_iload (q := 0) C dX12_comesOn_348 rfl ?_
            obtain ⟨g14, h⟩ := h
            refine g_iald C dX12_comesOn_350 kd_200 ln_200 g14 ?_
            refine g_aload_n (q := 1) C dX12_comesOn_351 rfl rfl ?_
            refine g_getS (v := 200) C fX12_7 dX12_comesOn_352 kd_199 rfl ?_
            refine g_iload (q := 0) C dX12_comesOn_355 rfl ?_
            refine g_iconst C dX12_comesOn_357 rfl ?_
            refine g_iadd C dX12_comesOn_358 ?_
            obtain ⟨g15, h⟩ := h
            refine g_iald C dX12_comesOn_359 kd_200 ln_200 g15 ?_
            refine g_cVi (As := [vI 1, vI (M9 200 ((v2 + 1) + (3 * v4))), vI (M9 200 (((v2 + 1) + (3 * v4)) + 1))]) C clX12_479 clvX12_frameAt dX12_comesOn_360 kd_199 rfl (Nat.le_of_ble_eq_true rfl) rfl (by decide) (t_X12_frameAt (Cx.ok C) h) (fun r17 M16 h => ?_)
            refine g_iconst C dX12_comesOn_363 rfl ?_
            obtain ⟨g18, h⟩ := h
            obtain ⟨ht, hf⟩ := h
            refine g_icmp_eq (tgt := 369) C dX12_comesOn_364 (by decide) g18 (by decide) (fun c => ?_) (fun c => ?_)
            · have h := ht c
              refine g_aload_n (q := 1) C dX12_comesOn_369 rfl rfl ?_
              refine g_iconst C dX12_comesOn_370 rfl ?_
              refine g_aload_n (q := 1) C dX12_comesOn_371 rfl rfl ?_
              refine g_getS (v := 200) C fX12_7 dX12_comesOn_372 kd_199 rfl ?_
              refine g_iload (q := 0) C dX12_comesOn_375 rfl ?_
              obtain ⟨g19, h⟩ := h
              refine g_iald C dX12_comesOn_377 kd_200 ln_200 g19 ?_
              refine g_aload_n (q := 1) C dX12_comesOn_378 rfl rfl ?_
              refine g_getS (v := 200) C fX12_7 dX12_comesOn_379 kd_199 rfl ?_
              refine g_iload (q := 0) C dX12_comesOn_382 rfl ?_
              refine g_iconst C dX12_comesOn_384 rfl ?_
              refine g_iadd C dX12_comesOn_385 ?_
              obtain ⟨g20, h⟩ := h
              refine g_iald C dX12_comesOn_386 kd_200 ln_200 g20 ?_
              refine g_aload_n (q := 1) C dX12_comesOn_387 rfl rfl ?_
              refine g_getS (v := 200) C fX12_7 dX12_comesOn_388 kd_199 rfl ?_
              refine g_iload (q := 0) C dX12_comesOn_391 rfl ?_
              refine g_iconst C dX12_comesOn_393 rfl ?_
              refine g_iadd C dX12_comesOn_394 ?_
              obtain ⟨g21, h⟩ := h
              refine g_iald C dX12_comesOn_395 kd_200 ln_200 g21 ?_
              refine g_cVv (As := [vI 1, vI (M16 200 ((v2 + 1) + (3 * v4))), vI (M16 200 (((v2 + 1) + (3 * v4)) + 1)), vI (M16 200 (((v2 + 1) + (3 * v4)) + 2))]) C clX12_482 clvX12_shows dX12_comesOn_396 kd_199 rfl (Nat.le_of_ble_eq_true rfl) rfl (by decide) (t_X12_shows (Cx.ok C) h) (fun M22 h => ?_)
              refine g_iinc (q := 3) (v := v4 + 1) (lv' := [(4, vI (v4 + 1)), (5, vI ((v2 + 1) + (3 * v4))), (0, vR Y 199), (2, vI v2)]) C dX12_comesOn_399 rfl rfl (by decide) rfl ?_
              refine g_goto (tgt := 275) C dX12_comesOn_402 (by decide) ?_
              refine G.sub [2, 3, 0] rfl ?_
              exact ih _ _ h
            · have h := hf c
              refine G.sub [] rfl ?_
              exact w_X12_comesOn_J367 C hR  h
set_option maxRecDepth 20000 in
theorem w_X12_comesOn_J220 {Y : YT} {X : CX} (C : Cx Y X cX12_comesOn 6 RX12 2) {Q : Int → Mem → Prop} (hR : Rt Y X (some .boolean) (PQi Y Q))   {M : Mem}  (h : m_X12_comesOn_J220  Q  M) : G Y X 6 220 [] ([]) M := by
  unfold m_X12_comesOn_J220 at h
  refine g_iconst C dX12_comesOn_220 rfl ?_
  exact g_retz C hR dX12_comesOn_221 (by decide) h
set_option maxRecDepth 20000 in
theorem w_X12_comesOn_L173 {Y : YT} {X : CX} (C : Cx Y X cX12_comesOn 6 RX12 2) {Q : Int → Mem → Prop} (hR : Rt Y X (some .boolean) (PQi Y Q)) {v2 : Int}  : ∀ (f : Nat) (v4 : Int) (M : Mem), m_X12_comesOn_L173  Q v2 f v4 M → G Y X 6 173 [(0, vR Y 199), (2, vI v2), (4, vI v4)] ([]) M := by
  intro f
  induction f with
  | zero =>
    intro v4 M h
    exact (show False from h).elim
  | succ f ih =>
    intro v4 M h
    unfold m_X12_comesOn_L173 at h
    refine g_iload (q := 2) C dX12_comesOn_173 rfl ?_
    refine g_aload_n (q := 0) C dX12_comesOn_175 rfl rfl ?_
    refine g_getS (v := 205) C fX12_66 dX12_comesOn_176 kd_199 rfl ?_
    refine g_aload_n (q := 0) C dX12_comesOn_179 rfl rfl ?_
    refine g_getI C fX12_51 (by decide) dX12_comesOn_180 kd_199 ?_
    obtain ⟨g23, h⟩ := h
    refine g_iald C dX12_comesOn_183 kd_205 ln_205 g23 ?_
    obtain ⟨g24, h⟩ := h
    obtain ⟨g25, h⟩ := h
    obtain ⟨ht, hf⟩ := h
    refine g_icmp_ge (tgt := 272) C dX12_comesOn_184 (by decide) g24 g25 (fun c => ?_) (fun c => ?_)
    · have h := ht c
      refine g_iconst C dX12_comesOn_272 rfl ?_
      refine g_istore (lv' := [(4, vI 0), (0, vR Y 199), (2, vI v2)]) C dX12_comesOn_273 (by decide) rfl ?_
      obtain ⟨f0, h⟩ := h
      refine G.sub [1, 2, 0] rfl ?_
      exact w_X12_comesOn_L275 C hR  f0 _ _ h
    · have h := hf c
      refine g_aload_n (q := 0) C dX12_comesOn_187 rfl rfl ?_
      refine g_aload_n (q := 0) C dX12_comesOn_188 rfl rfl ?_
      refine g_getS (v := 200) C fX12_7 dX12_comesOn_189 kd_199 rfl ?_
      refine g_iconst C dX12_comesOn_192 rfl ?_
      refine g_iconst C dX12_comesOn_193 rfl ?_
      refine g_iload (q := 2) C dX12_comesOn_194 rfl ?_
      refine g_imul C dX12_comesOn_196 ?_
      refine g_iadd C dX12_comesOn_197 ?_
      obtain ⟨g26, h⟩ := h
      refine g_iald C dX12_comesOn_198 kd_200 ln_200 g26 ?_
      refine g_cVi (As := [vI (M 200 (2 + (2 * v4)))]) C clX12_470 clvX12_isPlace dX12_comesOn_199 kd_199 rfl (Nat.le_of_ble_eq_true rfl) rfl (by decide) (t_X12_isPlace (Cx.ok C) h) (fun r28 M27 h => ?_)
      obtain ⟨g29, h⟩ := h
      obtain ⟨ht, hf⟩ := h
      refine g_if_eq (tgt := 220) C dX12_comesOn_202 (by decide) g29 (fun c => ?_) (fun c => ?_)
      · have h := ht c
        refine G.sub [] rfl ?_
        exact w_X12_comesOn_J220 C hR  h
      · have h := hf c
        refine g_aload_n (q := 0) C dX12_comesOn_205 rfl rfl ?_
        refine g_getS (v := 200) C fX12_7 dX12_comesOn_206 kd_199 rfl ?_
        refine g_iconst C dX12_comesOn_209 rfl ?_
        refine g_iconst C dX12_comesOn_210 rfl ?_
        refine g_iload (q := 2) C dX12_comesOn_211 rfl ?_
        refine g_imul C dX12_comesOn_213 ?_
        refine g_iadd C dX12_comesOn_214 ?_
        obtain ⟨g30, h⟩ := h
        refine g_iald C dX12_comesOn_215 kd_200 ln_200 g30 ?_
        refine g_iconst C dX12_comesOn_216 rfl ?_
        obtain ⟨g31, h⟩ := h
        obtain ⟨ht, hf⟩ := h
        refine g_icmp_le (tgt := 222) C dX12_comesOn_217 (by decide) g31 (by decide) (fun c => ?_) (fun c => ?_)
        · have h := ht c
          refine g_aload_n (q := 0) C dX12_comesOn_222 rfl rfl ?_
          refine g_getS (v := 228) C fX12_159 dX12_comesOn_223 kd_199 rfl ?_
          refine g_bipush (v := 6) C dX12_comesOn_226 (by decide +kernel) ?_
          refine g_iload (q := 2) C dX12_comesOn_228 rfl ?_
          refine g_iadd C dX12_comesOn_230 ?_
          refine g_aload_n (q := 0) C dX12_comesOn_231 rfl rfl ?_
          refine g_getS (v := 200) C fX12_7 dX12_comesOn_232 kd_199 rfl ?_
          refine g_iconst C dX12_comesOn_235 rfl ?_
          refine g_iconst C dX12_comesOn_236 rfl ?_
          refine g_iload (q := 2) C dX12_comesOn_237 rfl ?_
          refine g_imul C dX12_comesOn_239 ?_
          refine g_iadd C dX12_comesOn_240 ?_
          obtain ⟨g32, h⟩ := h
          refine g_iald C dX12_comesOn_241 kd_200 ln_200 g32 ?_
          obtain ⟨g33, h⟩ := h
          obtain ⟨M34, e_M34⟩ : ∃ z : Mem, z = up M27 228 (6 + v4) (M27 200 (2 + (2 * v4))) := ⟨_, rfl⟩
          have h := h M34 e_M34
          refine g_iast C dX12_comesOn_242 kd_228 ln_228 g33 e_M34 ?_
          refine g_aload_n (q := 0) C dX12_comesOn_243 rfl rfl ?_
          refine g_getS (v := 229) C fX12_162 dX12_comesOn_244 kd_199 rfl ?_
          refine g_iconst C dX12_comesOn_247 rfl ?_
          refine g_dup2 C dX12_comesOn_248 rfl rfl ?_
          refine g_iald C dX12_comesOn_249 kd_229 ln_229 (by decide) ?_
          refine g_aload_n (q := 0) C dX12_comesOn_250 rfl rfl ?_
          refine g_getS (v := 200) C fX12_7 dX12_comesOn_251 kd_199 rfl ?_
          refine g_iconst C dX12_comesOn_254 rfl ?_
          refine g_iconst C dX12_comesOn_255 rfl ?_
          refine g_iload (q := 2) C dX12_comesOn_256 rfl ?_
          refine g_imul C dX12_comesOn_258 ?_
          refine g_iadd C dX12_comesOn_259 ?_
          obtain ⟨g35, h⟩ := h
          refine g_iald C dX12_comesOn_260 kd_200 ln_200 g35 ?_
          refine g_iload (q := 2) C dX12_comesOn_261 rfl ?_
          refine g_ishl C dX12_comesOn_263 ?_
          refine g_ior C dX12_comesOn_264 ?_
          obtain ⟨M36, e_M36⟩ : ∃ z : Mem, z = up M34 229 1 (zor (M34 229 1) (zshl (M34 200 (3 + (2 * v4))) v4)) := ⟨_, rfl⟩
          have h := h M36 e_M36
          refine g_iast C dX12_comesOn_265 kd_229 ln_229 (by decide) e_M36 ?_
          refine g_iinc (q := 2) (v := v4 + 1) (lv' := [(4, vI (v4 + 1)), (0, vR Y 199), (2, vI v2)]) C dX12_comesOn_266 rfl rfl (by decide) rfl ?_
          refine g_goto (tgt := 173) C dX12_comesOn_269 (by decide) ?_
          refine G.sub [1, 2, 0] rfl ?_
          exact ih _ _ h
        · have h := hf c
          refine G.sub [] rfl ?_
          exact w_X12_comesOn_J220 C hR  h
set_option maxRecDepth 20000 in
theorem w_X12_comesOn_L77 {Y : YT} {X : CX} (C : Cx Y X cX12_comesOn 6 RX12 2) {Q : Int → Mem → Prop} (hR : Rt Y X (some .boolean) (PQi Y Q)) {v1 : Int} {v2 : Int}  : ∀ (f : Nat) (v3 : Int) (v4 : Int) (M : Mem), m_X12_comesOn_L77  Q v1 v2 f v3 v4 M → G Y X 6 77 [(0, vR Y 199), (1, vI v1), (2, vI v2), (3, vI v3), (4, vI v4)] ([]) M := by
  intro f
  induction f with
  | zero =>
    intro v3 v4 M h
    exact (show False from h).elim
  | succ f ih =>
    intro v3 v4 M h
    unfold m_X12_comesOn_L77 at h
    refine g_iload (q := 4) C dX12_comesOn_77 rfl ?_
    refine g_iload_n (q := 1) C dX12_comesOn_79 rfl rfl ?_
    refine g_iconst C dX12_comesOn_80 rfl ?_
    refine g_isub C dX12_comesOn_81 ?_
    obtain ⟨g37, h⟩ := h
    obtain ⟨g38, h⟩ := h
    obtain ⟨ht, hf⟩ := h
    refine g_icmp_ge (tgt := 107) C dX12_comesOn_82 (by decide) g37 g38 (fun c => ?_) (fun c => ?_)
    · have h := ht c
      refine g_aload_n (q := 0) C dX12_comesOn_107 rfl rfl ?_
      refine g_getS (v := 200) C fX12_7 dX12_comesOn_108 kd_199 rfl ?_
      refine g_iload_n (q := 1) C dX12_comesOn_111 rfl rfl ?_
      refine g_iconst C dX12_comesOn_112 rfl ?_
      refine g_isub C dX12_comesOn_113 ?_
      obtain ⟨g39, h⟩ := h
      refine g_iald C dX12_comesOn_114 kd_200 ln_200 g39 ?_
      refine g_iload_n (q := 3) C dX12_comesOn_115 rfl rfl ?_
      obtain ⟨g40, h⟩ := h
      obtain ⟨g41, h⟩ := h
      obtain ⟨ht, hf⟩ := h
      refine g_icmp_eq (tgt := 121) C dX12_comesOn_116 (by decide) g40 g41 (fun c => ?_) (fun c => ?_)
      · have h := ht c
        refine g_aload_n (q := 0) C dX12_comesOn_121 rfl rfl ?_
        refine g_iconst C dX12_comesOn_122 rfl ?_
        refine g_iconst C dX12_comesOn_123 rfl ?_
        refine g_cVv (As := [vI 1, vI 0]) C clX12_411 clvX12_copies dX12_comesOn_124 kd_199 rfl (Nat.le_of_ble_eq_true rfl) rfl (by decide) (t_X12_copies (Cx.ok C) h) (fun M42 h => ?_)
        refine g_aload_n (q := 0) C dX12_comesOn_127 rfl rfl ?_
        refine g_getS (v := 227) C fX12_156 dX12_comesOn_128 kd_199 rfl ?_
        refine g_iconst C dX12_comesOn_131 rfl ?_
        refine g_aload_n (q := 0) C dX12_comesOn_132 rfl rfl ?_
        refine g_getS (v := 200) C fX12_7 dX12_comesOn_133 kd_199 rfl ?_
        refine g_iconst C dX12_comesOn_136 rfl ?_
        refine g_iald C dX12_comesOn_137 kd_200 ln_200 (by decide) ?_
        refine g_bipush (v := 8) C dX12_comesOn_138 (by decide +kernel) ?_
        refine g_ishl C dX12_comesOn_140 ?_
        refine g_aload_n (q := 0) C dX12_comesOn_141 rfl rfl ?_
        refine g_getS (v := 200) C fX12_7 dX12_comesOn_142 kd_199 rfl ?_
        refine g_iconst C dX12_comesOn_145 rfl ?_
        refine g_iald C dX12_comesOn_146 kd_200 ln_200 (by decide) ?_
        refine g_ior C dX12_comesOn_147 ?_
        obtain ⟨M43, e_M43⟩ : ∃ z : Mem, z = up M42 227 1 (zor (zshl (M42 200 0) 8) (M42 200 1)) := ⟨_, rfl⟩
        have h := h M43 e_M43
        refine g_iast C dX12_comesOn_148 kd_227 ln_227 (by decide) e_M43 ?_
        refine g_aload_n (q := 0) C dX12_comesOn_149 rfl rfl ?_
        refine g_getS (v := 229) C fX12_162 dX12_comesOn_150 kd_199 rfl ?_
        refine g_iconst C dX12_comesOn_153 rfl ?_
        refine g_iconst C dX12_comesOn_154 rfl ?_
        obtain ⟨M44, e_M44⟩ : ∃ z : Mem, z = up M43 229 1 0 := ⟨_, rfl⟩
        have h := h M44 e_M44
        refine g_iast C dX12_comesOn_155 kd_229 ln_229 (by decide) e_M44 ?_
        refine g_aload_n (q := 0) C dX12_comesOn_156 rfl rfl ?_
        refine g_getS (v := 230) C fX12_165 dX12_comesOn_157 kd_199 rfl ?_
        refine g_iconst C dX12_comesOn_160 rfl ?_
        refine g_iconst C dX12_comesOn_161 rfl ?_
        obtain ⟨M45, e_M45⟩ : ∃ z : Mem, z = up M44 230 1 0 := ⟨_, rfl⟩
        have h := h M45 e_M45
        refine g_iast C dX12_comesOn_162 kd_230 ln_230 (by decide) e_M45 ?_
        refine g_aload_n (q := 0) C dX12_comesOn_163 rfl rfl ?_
        refine g_getS (v := 232) C fX12_171 dX12_comesOn_164 kd_199 rfl ?_
        refine g_iconst C dX12_comesOn_167 rfl ?_
        refine g_iconst C dX12_comesOn_168 rfl ?_
        obtain ⟨M46, e_M46⟩ : ∃ z : Mem, z = up M45 232 1 0 := ⟨_, rfl⟩
        have h := h M46 e_M46
        refine g_iast C dX12_comesOn_169 kd_232 ln_232 (by decide) e_M46 ?_
        refine g_iconst C dX12_comesOn_170 rfl ?_
        refine g_istore (lv' := [(4, vI 0), (0, vR Y 199), (1, vI v1), (2, vI v2), (3, vI v3)]) C dX12_comesOn_171 (by decide) rfl ?_
        obtain ⟨f0, h⟩ := h
        refine G.sub [1, 3, 0] rfl ?_
        exact w_X12_comesOn_L173 C hR  f0 _ _ h
      · have h := hf c
        refine g_iconst C dX12_comesOn_119 rfl ?_
        exact g_retz C hR dX12_comesOn_120 (by decide) h
    · have h := hf c
      refine g_iconst C dX12_comesOn_85 rfl ?_
      refine g_iload_n (q := 3) C dX12_comesOn_86 rfl rfl ?_
      refine g_imul C dX12_comesOn_87 ?_
      refine g_aload_n (q := 0) C dX12_comesOn_88 rfl rfl ?_
      refine g_getS (v := 200) C fX12_7 dX12_comesOn_89 kd_199 rfl ?_
      refine g_iload (q := 4) C dX12_comesOn_92 rfl ?_
      obtain ⟨g47, h⟩ := h
      refine g_iald C dX12_comesOn_94 kd_200 ln_200 g47 ?_
      refine g_iadd C dX12_comesOn_95 ?_
      refine g_sipush (v := 251) C dX12_comesOn_96 (by decide +kernel) ?_
      obtain ⟨g48, h⟩ := h
      refine g_irem C dX12_comesOn_99 g48 (by decide) (by decide) ?_
      obtain ⟨x49, e_x49⟩ : ∃ z : Int, z = ((5 * v3) + (M 200 v4)).tmod 251 := ⟨_, rfl⟩
      have h := h x49 e_x49
      refine G.nmI e_x49 ?_
      refine g_istore_n (lv' := [(3, vI x49), (0, vR Y 199), (1, vI v1), (2, vI v2), (4, vI v4)]) C dX12_comesOn_100 rfl (by decide) rfl ?_
      refine g_iinc (q := 4) (v := v4 + 1) (lv' := [(4, vI (v4 + 1)), (3, vI x49), (0, vR Y 199), (1, vI v1), (2, vI v2)]) C dX12_comesOn_101 rfl rfl (by decide) rfl ?_
      refine g_goto (tgt := 77) C dX12_comesOn_104 (by decide) ?_
      refine G.sub [2, 3, 4, 1, 0] rfl ?_
      exact ih _ _ _ h
set_option maxRecDepth 20000 in
theorem w_X12_comesOn_J68 {Y : YT} {X : CX} (C : Cx Y X cX12_comesOn 6 RX12 2) {Q : Int → Mem → Prop} (hR : Rt Y X (some .boolean) (PQi Y Q))   {M : Mem}  (h : m_X12_comesOn_J68  Q  M) : G Y X 6 68 [] ([]) M := by
  unfold m_X12_comesOn_J68 at h
  refine g_iconst C dX12_comesOn_68 rfl ?_
  exact g_retz C hR dX12_comesOn_69 (by decide) h
set_option maxRecDepth 20000 in
theorem t_X12_comesOn {l : Launch} {Y : YT} (hY : YOK Y) {a0 : Int} {M : Mem} {Q : Int → Mem → Prop} (h : m_X12_comesOn a0 M Q) : Ctr l Y yX12_comesOn cX12_comesOn 6 (some .boolean) 2 [vR Y 199, vI a0] M (PQi Y Q) := by
  unfold m_X12_comesOn at h
  refine ctr_ofF hY (by decide +kernel) (Nat.le_of_ble_eq_true rfl) [(0, vR Y 199), (1, vI a0)] rfl (fun X hX C hR => ?_)
  refine g_iconst C dX12_comesOn_0 rfl ?_
  refine g_iconst C dX12_comesOn_1 rfl ?_
  refine g_aload_n (q := 0) C dX12_comesOn_2 rfl rfl ?_
  refine g_getS (v := 205) C fX12_66 dX12_comesOn_3 kd_199 rfl ?_
  refine g_aload_n (q := 0) C dX12_comesOn_6 rfl rfl ?_
  refine g_getI C fX12_51 (by decide) dX12_comesOn_7 kd_199 ?_
  obtain ⟨g50, h⟩ := h
  refine g_iald C dX12_comesOn_10 kd_205 ln_205 g50 ?_
  refine g_imul C dX12_comesOn_11 ?_
  refine g_iadd C dX12_comesOn_12 ?_
  refine g_istore_n (lv' := [(2, vI (2 + (2 * (M 205 (M 199 13))))), (0, vR Y 199), (1, vI a0)]) C dX12_comesOn_13 rfl (by decide) rfl ?_
  refine g_iload_n (q := 2) C dX12_comesOn_14 rfl rfl ?_
  refine g_iload_n (q := 0) C dX12_comesOn_15 rfl rfl ?_
  obtain ⟨g51, h⟩ := h
  obtain ⟨g52, h⟩ := h
  obtain ⟨ht, hf⟩ := h
  refine g_icmp_le (tgt := 68) C dX12_comesOn_16 (by decide) g51 g52 (fun c => ?_) (fun c => ?_)
  · have h := ht c
    refine G.sub [] rfl ?_
    exact w_X12_comesOn_J68 C hR  h
  · have h := hf c
    refine g_aload_n (q := 1) C dX12_comesOn_19 rfl rfl ?_
    refine g_getS (v := 200) C fX12_7 dX12_comesOn_20 kd_199 rfl ?_
    refine g_iload_n (q := 0) C dX12_comesOn_23 rfl rfl ?_
    obtain ⟨g53, h⟩ := h
    refine g_iald C dX12_comesOn_24 kd_200 ln_200 g53 ?_
    refine g_bipush (v := 8) C dX12_comesOn_25 (by decide +kernel) ?_
    obtain ⟨g54, h⟩ := h
    obtain ⟨ht, hf⟩ := h
    refine g_icmp_gt (tgt := 68) C dX12_comesOn_27 (by decide) g54 (by decide) (fun c => ?_) (fun c => ?_)
    · have h := ht c
      refine G.sub [] rfl ?_
      exact w_X12_comesOn_J68 C hR  h
    · have h := hf c
      refine g_iload_n (q := 2) C dX12_comesOn_30 rfl rfl ?_
      refine g_iload_n (q := 0) C dX12_comesOn_31 rfl rfl ?_
      refine g_iconst C dX12_comesOn_32 rfl ?_
      refine g_iadd C dX12_comesOn_33 ?_
      refine g_iconst C dX12_comesOn_34 rfl ?_
      refine g_aload_n (q := 1) C dX12_comesOn_35 rfl rfl ?_
      refine g_getS (v := 200) C fX12_7 dX12_comesOn_36 kd_199 rfl ?_
      refine g_iload_n (q := 0) C dX12_comesOn_39 rfl rfl ?_
      obtain ⟨g55, h⟩ := h
      refine g_iald C dX12_comesOn_40 kd_200 ln_200 g55 ?_
      refine g_imul C dX12_comesOn_41 ?_
      refine g_iadd C dX12_comesOn_42 ?_
      obtain ⟨g56, h⟩ := h
      obtain ⟨g57, h⟩ := h
      obtain ⟨ht, hf⟩ := h
      refine g_icmp_ne (tgt := 68) C dX12_comesOn_43 (by decide) g56 g57 (fun c => ?_) (fun c => ?_)
      · have h := hf c
        refine G.sub [] rfl ?_
        exact w_X12_comesOn_J68 C hR  h
      · have h := ht c
        refine g_aload_n (q := 1) C dX12_comesOn_46 rfl rfl ?_
        refine g_getS (v := 200) C fX12_7 dX12_comesOn_47 kd_199 rfl ?_
        refine g_iconst C dX12_comesOn_50 rfl ?_
        refine g_iald C dX12_comesOn_51 kd_200 ln_200 (by decide) ?_
        refine g_bipush (v := 8) C dX12_comesOn_52 (by decide +kernel) ?_
        refine g_ishl C dX12_comesOn_54 ?_
        refine g_aload_n (q := 1) C dX12_comesOn_55 rfl rfl ?_
        refine g_getS (v := 200) C fX12_7 dX12_comesOn_56 kd_199 rfl ?_
        refine g_iconst C dX12_comesOn_59 rfl ?_
        refine g_iald C dX12_comesOn_60 kd_200 ln_200 (by decide) ?_
        refine g_ior C dX12_comesOn_61 ?_
        refine g_sipush (v := 999) C dX12_comesOn_62 (by decide +kernel) ?_
        obtain ⟨g58, h⟩ := h
        obtain ⟨ht, hf⟩ := h
        refine g_icmp_le (tgt := 70) C dX12_comesOn_65 (by decide) g58 (by decide) (fun c => ?_) (fun c => ?_)
        · have h := ht c
          refine g_sipush (v := 193) C dX12_comesOn_70 (by decide +kernel) ?_
          refine g_istore_n (lv' := [(3, vI 193), (2, vI (2 + (2 * (M 205 (M 199 13))))), (0, vR Y 199), (1, vI a0)]) C dX12_comesOn_73 rfl (by decide) rfl ?_
          refine g_iconst C dX12_comesOn_74 rfl ?_
          refine g_istore (lv' := [(4, vI 0), (3, vI 193), (2, vI (2 + (2 * (M 205 (M 199 13))))), (0, vR Y 199), (1, vI a0)]) C dX12_comesOn_75 (by decide) rfl ?_
          obtain ⟨f0, h⟩ := h
          refine G.sub [3, 4, 2, 1, 0] rfl ?_
          exact w_X12_comesOn_L77 C hR  f0 _ _ _ h
        · have h := hf c
          refine G.sub [] rfl ?_
          exact w_X12_comesOn_J68 C hR  h
