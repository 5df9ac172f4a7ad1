theorem dX7_digitAt_0 : decode cX7_digitAt 0 = .ok (.iload_n 1, 1) := by decide +kernel
theorem dX7_digitAt_1 : decode cX7_digitAt 1 = .ok (.aload_n 0, 1) := by decide +kernel
theorem dX7_digitAt_2 : decode cX7_digitAt 2 = .ok (.getfield 34, 3) := by decide +kernel
theorem dX7_digitAt_5 : decode cX7_digitAt 5 = .ok (.if_icmp .ge 37, 3) := by decide +kernel
theorem dX7_digitAt_8 : decode cX7_digitAt 8 = .ok (.aload_n 0, 1) := by decide +kernel
theorem dX7_digitAt_9 : decode cX7_digitAt 9 = .ok (.getfield 9, 3) := by decide +kernel
theorem dX7_digitAt_12 : decode cX7_digitAt 12 = .ok (.iload_n 1, 1) := by decide +kernel
theorem dX7_digitAt_13 : decode cX7_digitAt 13 = .ok (.iaload, 1) := by decide +kernel
theorem dX7_digitAt_14 : decode cX7_digitAt 14 = .ok (.bipush 48, 2) := by decide +kernel
theorem dX7_digitAt_16 : decode cX7_digitAt 16 = .ok (.if_icmp .lt 26, 3) := by decide +kernel
theorem dX7_digitAt_19 : decode cX7_digitAt 19 = .ok (.aload_n 0, 1) := by decide +kernel
theorem dX7_digitAt_20 : decode cX7_digitAt 20 = .ok (.getfield 9, 3) := by decide +kernel
theorem dX7_digitAt_23 : decode cX7_digitAt 23 = .ok (.iload_n 1, 1) := by decide +kernel
theorem dX7_digitAt_24 : decode cX7_digitAt 24 = .ok (.iaload, 1) := by decide +kernel
theorem dX7_digitAt_25 : decode cX7_digitAt 25 = .ok (.bipush 57, 2) := by decide +kernel
theorem dX7_digitAt_27 : decode cX7_digitAt 27 = .ok (.if_icmp .gt 15, 3) := by decide +kernel
theorem dX7_digitAt_30 : decode cX7_digitAt 30 = .ok (.aload_n 0, 1) := by decide +kernel
theorem dX7_digitAt_31 : decode cX7_digitAt 31 = .ok (.getfield 9, 3) := by decide +kernel
theorem dX7_digitAt_34 : decode cX7_digitAt 34 = .ok (.iload_n 1, 1) := by decide +kernel
theorem dX7_digitAt_35 : decode cX7_digitAt 35 = .ok (.iaload, 1) := by decide +kernel
theorem dX7_digitAt_36 : decode cX7_digitAt 36 = .ok (.bipush 48, 2) := by decide +kernel
theorem dX7_digitAt_38 : decode cX7_digitAt 38 = .ok (.isub, 1) := by decide +kernel
theorem dX7_digitAt_39 : decode cX7_digitAt 39 = .ok (.goto 4, 3) := by decide +kernel
theorem dX7_digitAt_42 : decode cX7_digitAt 42 = .ok (.iconst (-1), 1) := by decide +kernel
theorem dX7_digitAt_43 : decode cX7_digitAt 43 = .ok (.ireturn, 1) := by decide +kernel
theorem dX7_readNumber_0 : decode cX7_readNumber 0 = .ok (.aload_n 0, 1) := by decide +kernel
theorem dX7_readNumber_1 : decode cX7_readNumber 1 = .ok (.iconst 2, 1) := by decide +kernel
theorem dX7_readNumber_2 : decode cX7_readNumber 2 = .ok (.putfield 43, 3) := by decide +kernel
theorem dX7_readNumber_5 : decode cX7_readNumber 5 = .ok (.aload_n 0, 1) := by decide +kernel
theorem dX7_readNumber_6 : decode cX7_readNumber 6 = .ok (.iconst 0, 1) := by decide +kernel
theorem dX7_readNumber_7 : decode cX7_readNumber 7 = .ok (.putfield 70, 3) := by decide +kernel
theorem dX7_readNumber_10 : decode cX7_readNumber 10 = .ok (.iconst 0, 1) := by decide +kernel
theorem dX7_readNumber_11 : decode cX7_readNumber 11 = .ok (.istore_n 1, 1) := by decide +kernel
theorem dX7_readNumber_12 : decode cX7_readNumber 12 = .ok (.iload_n 1, 1) := by decide +kernel
theorem dX7_readNumber_13 : decode cX7_readNumber 13 = .ok (.iconst 4, 1) := by decide +kernel
theorem dX7_readNumber_14 : decode cX7_readNumber 14 = .ok (.if_icmp .ge 50, 3) := by decide +kernel
theorem dX7_readNumber_17 : decode cX7_readNumber 17 = .ok (.aload_n 0, 1) := by decide +kernel
theorem dX7_readNumber_18 : decode cX7_readNumber 18 = .ok (.aload_n 0, 1) := by decide +kernel
theorem dX7_readNumber_19 : decode cX7_readNumber 19 = .ok (.getfield 40, 3) := by decide +kernel
theorem dX7_readNumber_22 : decode cX7_readNumber 22 = .ok (.invokevirtual 64, 3) := by decide +kernel
theorem dX7_readNumber_25 : decode cX7_readNumber 25 = .ok (.ifCond .lt 39, 3) := by decide +kernel
theorem dX7_readNumber_28 : decode cX7_readNumber 28 = .ok (.aload_n 0, 1) := by decide +kernel
theorem dX7_readNumber_29 : decode cX7_readNumber 29 = .ok (.bipush 10, 2) := by decide +kernel
theorem dX7_readNumber_31 : decode cX7_readNumber 31 = .ok (.aload_n 0, 1) := by decide +kernel
theorem dX7_readNumber_32 : decode cX7_readNumber 32 = .ok (.getfield 70, 3) := by decide +kernel
theorem dX7_readNumber_35 : decode cX7_readNumber 35 = .ok (.imul, 1) := by decide +kernel
theorem dX7_readNumber_36 : decode cX7_readNumber 36 = .ok (.aload_n 0, 1) := by decide +kernel
theorem dX7_readNumber_37 : decode cX7_readNumber 37 = .ok (.aload_n 0, 1) := by decide +kernel
theorem dX7_readNumber_38 : decode cX7_readNumber 38 = .ok (.getfield 40, 3) := by decide +kernel
theorem dX7_readNumber_41 : decode cX7_readNumber 41 = .ok (.invokevirtual 64, 3) := by decide +kernel
theorem dX7_readNumber_44 : decode cX7_readNumber 44 = .ok (.iadd, 1) := by decide +kernel
theorem dX7_readNumber_45 : decode cX7_readNumber 45 = .ok (.putfield 70, 3) := by decide +kernel
theorem dX7_readNumber_48 : decode cX7_readNumber 48 = .ok (.aload_n 0, 1) := by decide +kernel
theorem dX7_readNumber_49 : decode cX7_readNumber 49 = .ok (.dup, 1) := by decide +kernel
theorem dX7_readNumber_50 : decode cX7_readNumber 50 = .ok (.getfield 40, 3) := by decide +kernel
theorem dX7_readNumber_53 : decode cX7_readNumber 53 = .ok (.iconst 1, 1) := by decide +kernel
theorem dX7_readNumber_54 : decode cX7_readNumber 54 = .ok (.iadd, 1) := by decide +kernel
theorem dX7_readNumber_55 : decode cX7_readNumber 55 = .ok (.putfield 40, 3) := by decide +kernel
theorem dX7_readNumber_58 : decode cX7_readNumber 58 = .ok (.iinc 1 1, 3) := by decide +kernel
theorem dX7_readNumber_61 : decode cX7_readNumber 61 = .ok (.goto (-49), 3) := by decide +kernel
theorem dX7_readNumber_64 : decode cX7_readNumber 64 = .ok (.aload_n 0, 1) := by decide +kernel
theorem dX7_readNumber_65 : decode cX7_readNumber 65 = .ok (.aload_n 0, 1) := by decide +kernel
theorem dX7_readNumber_66 : decode cX7_readNumber 66 = .ok (.getfield 40, 3) := by decide +kernel
theorem dX7_readNumber_69 : decode cX7_readNumber 69 = .ok (.invokevirtual 64, 3) := by decide +kernel
theorem dX7_readNumber_72 : decode cX7_readNumber 72 = .ok (.ifCond .lt 16, 3) := by decide +kernel
theorem dX7_readNumber_75 : decode cX7_readNumber 75 = .ok (.aload_n 0, 1) := by decide +kernel
theorem dX7_readNumber_76 : decode cX7_readNumber 76 = .ok (.iconst 4, 1) := by decide +kernel
theorem dX7_readNumber_77 : decode cX7_readNumber 77 = .ok (.putfield 43, 3) := by decide +kernel
theorem dX7_readNumber_80 : decode cX7_readNumber 80 = .ok (.aload_n 0, 1) := by decide +kernel
theorem dX7_readNumber_81 : decode cX7_readNumber 81 = .ok (.aload_n 0, 1) := by decide +kernel
theorem dX7_readNumber_82 : decode cX7_readNumber 82 = .ok (.getfield 40, 3) := by decide +kernel
theorem dX7_readNumber_85 : decode cX7_readNumber 85 = .ok (.putfield 52, 3) := by decide +kernel
theorem dX7_readNumber_88 : decode cX7_readNumber 88 = .ok (.return_, 1) := by decide +kernel
theorem dX7_advance_0 : decode cX7_advance 0 = .ok (.aload_n 0, 1) := by decide +kernel
theorem dX7_advance_1 : decode cX7_advance 1 = .ok (.getfield 43, 3) := by decide +kernel
theorem dX7_advance_4 : decode cX7_advance 4 = .ok (.iconst 1, 1) := by decide +kernel
theorem dX7_advance_5 : decode cX7_advance 5 = .ok (.if_icmp .eq 11, 3) := by decide +kernel
theorem dX7_advance_8 : decode cX7_advance 8 = .ok (.aload_n 0, 1) := by decide +kernel
theorem dX7_advance_9 : decode cX7_advance 9 = .ok (.getfield 43, 3) := by decide +kernel
theorem dX7_advance_12 : decode cX7_advance 12 = .ok (.iconst 2, 1) := by decide +kernel
theorem dX7_advance_13 : decode cX7_advance 13 = .ok (.if_icmp .ne 7, 3) := by decide +kernel
theorem dX7_advance_16 : decode cX7_advance 16 = .ok (.iconst 1, 1) := by decide +kernel
theorem dX7_advance_17 : decode cX7_advance 17 = .ok (.goto 4, 3) := by decide +kernel
theorem dX7_advance_20 : decode cX7_advance 20 = .ok (.iconst 0, 1) := by decide +kernel
theorem dX7_advance_21 : decode cX7_advance 21 = .ok (.istore_n 1, 1) := by decide +kernel
theorem dX7_advance_22 : decode cX7_advance 22 = .ok (.aload_n 0, 1) := by decide +kernel
theorem dX7_advance_23 : decode cX7_advance 23 = .ok (.getfield 40, 3) := by decide +kernel
theorem dX7_advance_26 : decode cX7_advance 26 = .ok (.istore_n 2, 1) := by decide +kernel
theorem dX7_advance_27 : decode cX7_advance 27 = .ok (.aload_n 0, 1) := by decide +kernel
theorem dX7_advance_28 : decode cX7_advance 28 = .ok (.getfield 40, 3) := by decide +kernel
theorem dX7_advance_31 : decode cX7_advance 31 = .ok (.aload_n 0, 1) := by decide +kernel
theorem dX7_advance_32 : decode cX7_advance 32 = .ok (.getfield 34, 3) := by decide +kernel
theorem dX7_advance_35 : decode cX7_advance 35 = .ok (.if_icmp .ge 44, 3) := by decide +kernel
theorem dX7_advance_38 : decode cX7_advance 38 = .ok (.aload_n 0, 1) := by decide +kernel
theorem dX7_advance_39 : decode cX7_advance 39 = .ok (.getfield 9, 3) := by decide +kernel
theorem dX7_advance_42 : decode cX7_advance 42 = .ok (.aload_n 0, 1) := by decide +kernel
theorem dX7_advance_43 : decode cX7_advance 43 = .ok (.getfield 40, 3) := by decide +kernel
theorem dX7_advance_46 : decode cX7_advance 46 = .ok (.iaload, 1) := by decide +kernel
theorem dX7_advance_47 : decode cX7_advance 47 = .ok (.bipush 32, 2) := by decide +kernel
theorem dX7_advance_49 : decode cX7_advance 49 = .ok (.if_icmp .eq 17, 3) := by decide +kernel
theorem dX7_advance_52 : decode cX7_advance 52 = .ok (.aload_n 0, 1) := by decide +kernel
theorem dX7_advance_53 : decode cX7_advance 53 = .ok (.getfield 9, 3) := by decide +kernel
theorem dX7_advance_56 : decode cX7_advance 56 = .ok (.aload_n 0, 1) := by decide +kernel
theorem dX7_advance_57 : decode cX7_advance 57 = .ok (.getfield 40, 3) := by decide +kernel
theorem dX7_advance_60 : decode cX7_advance 60 = .ok (.iaload, 1) := by decide +kernel
theorem dX7_advance_61 : decode cX7_advance 61 = .ok (.bipush 10, 2) := by decide +kernel
theorem dX7_advance_63 : decode cX7_advance 63 = .ok (.if_icmp .ne 16, 3) := by decide +kernel
theorem dX7_advance_66 : decode cX7_advance 66 = .ok (.aload_n 0, 1) := by decide +kernel
theorem dX7_advance_67 : decode cX7_advance 67 = .ok (.dup, 1) := by decide +kernel
theorem dX7_advance_68 : decode cX7_advance 68 = .ok (.getfield 40, 3) := by decide +kernel
theorem dX7_advance_71 : decode cX7_advance 71 = .ok (.iconst 1, 1) := by decide +kernel
theorem dX7_advance_72 : decode cX7_advance 72 = .ok (.iadd, 1) := by decide +kernel
theorem dX7_advance_73 : decode cX7_advance 73 = .ok (.putfield 40, 3) := by decide +kernel
theorem dX7_advance_76 : decode cX7_advance 76 = .ok (.goto (-49), 3) := by decide +kernel
theorem dX7_advance_79 : decode cX7_advance 79 = .ok (.aload_n 0, 1) := by decide +kernel
theorem dX7_advance_80 : decode cX7_advance 80 = .ok (.aload_n 0, 1) := by decide +kernel
theorem dX7_advance_81 : decode cX7_advance 81 = .ok (.getfield 40, 3) := by decide +kernel
theorem dX7_advance_84 : decode cX7_advance 84 = .ok (.putfield 49, 3) := by decide +kernel
theorem dX7_advance_87 : decode cX7_advance 87 = .ok (.aload_n 0, 1) := by decide +kernel
theorem dX7_advance_88 : decode cX7_advance 88 = .ok (.aload_n 0, 1) := by decide +kernel
theorem dX7_advance_89 : decode cX7_advance 89 = .ok (.getfield 40, 3) := by decide +kernel
theorem dX7_advance_92 : decode cX7_advance 92 = .ok (.putfield 52, 3) := by decide +kernel
theorem dX7_advance_95 : decode cX7_advance 95 = .ok (.aload_n 0, 1) := by decide +kernel
theorem dX7_advance_96 : decode cX7_advance 96 = .ok (.iconst (-1), 1) := by decide +kernel
theorem dX7_advance_97 : decode cX7_advance 97 = .ok (.putfield 55, 3) := by decide +kernel
theorem dX7_advance_100 : decode cX7_advance 100 = .ok (.aload_n 0, 1) := by decide +kernel
theorem dX7_advance_101 : decode cX7_advance 101 = .ok (.getfield 40, 3) := by decide +kernel
theorem dX7_advance_104 : decode cX7_advance 104 = .ok (.aload_n 0, 1) := by decide +kernel
theorem dX7_advance_105 : decode cX7_advance 105 = .ok (.getfield 34, 3) := by decide +kernel
theorem dX7_advance_108 : decode cX7_advance 108 = .ok (.if_icmp .lt 11, 3) := by decide +kernel
theorem dX7_advance_111 : decode cX7_advance 111 = .ok (.aload_n 0, 1) := by decide +kernel
theorem dX7_advance_112 : decode cX7_advance 112 = .ok (.iconst 0, 1) := by decide +kernel
theorem dX7_advance_113 : decode cX7_advance 113 = .ok (.putfield 43, 3) := by decide +kernel
theorem dX7_advance_116 : decode cX7_advance 116 = .ok (.goto 67, 3) := by decide +kernel
theorem dX7_advance_119 : decode cX7_advance 119 = .ok (.aload_n 0, 1) := by decide +kernel
theorem dX7_advance_120 : decode cX7_advance 120 = .ok (.aload_n 0, 1) := by decide +kernel
theorem dX7_advance_121 : decode cX7_advance 121 = .ok (.getfield 40, 3) := by decide +kernel
theorem dX7_advance_124 : decode cX7_advance 124 = .ok (.invokevirtual 58, 3) := by decide +kernel
theorem dX7_advance_127 : decode cX7_advance 127 = .ok (.ifCond .le 10, 3) := by decide +kernel
theorem dX7_advance_130 : decode cX7_advance 130 = .ok (.aload_n 0, 1) := by decide +kernel
theorem dX7_advance_131 : decode cX7_advance 131 = .ok (.invokevirtual 61, 3) := by decide +kernel
theorem dX7_advance_134 : decode cX7_advance 134 = .ok (.goto 49, 3) := by decide +kernel
theorem dX7_advance_137 : decode cX7_advance 137 = .ok (.aload_n 0, 1) := by decide +kernel
theorem dX7_advance_138 : decode cX7_advance 138 = .ok (.aload_n 0, 1) := by decide +kernel
theorem dX7_advance_139 : decode cX7_advance 139 = .ok (.getfield 40, 3) := by decide +kernel
theorem dX7_advance_142 : decode cX7_advance 142 = .ok (.invokevirtual 64, 3) := by decide +kernel
theorem dX7_advance_145 : decode cX7_advance 145 = .ok (.ifCond .lt 10, 3) := by decide +kernel
theorem dX7_advance_148 : decode cX7_advance 148 = .ok (.aload_n 0, 1) := by decide +kernel
theorem dX7_advance_149 : decode cX7_advance 149 = .ok (.invokevirtual 67, 3) := by decide +kernel
theorem dX7_advance_152 : decode cX7_advance 152 = .ok (.goto 31, 3) := by decide +kernel
theorem dX7_advance_155 : decode cX7_advance 155 = .ok (.aload_n 0, 1) := by decide +kernel
theorem dX7_advance_156 : decode cX7_advance 156 = .ok (.iconst 3, 1) := by decide +kernel
theorem dX7_advance_157 : decode cX7_advance 157 = .ok (.putfield 43, 3) := by decide +kernel
theorem dX7_advance_160 : decode cX7_advance 160 = .ok (.aload_n 0, 1) := by decide +kernel
theorem dX7_advance_161 : decode cX7_advance 161 = .ok (.aload_n 0, 1) := by decide +kernel
theorem dX7_advance_162 : decode cX7_advance 162 = .ok (.getfield 9, 3) := by decide +kernel
theorem dX7_advance_165 : decode cX7_advance 165 = .ok (.aload_n 0, 1) := by decide +kernel
theorem dX7_advance_166 : decode cX7_advance 166 = .ok (.getfield 40, 3) := by decide +kernel
theorem dX7_advance_169 : decode cX7_advance 169 = .ok (.iaload, 1) := by decide +kernel
theorem dX7_advance_170 : decode cX7_advance 170 = .ok (.putfield 70, 3) := by decide +kernel
theorem dX7_advance_173 : decode cX7_advance 173 = .ok (.aload_n 0, 1) := by decide +kernel
theorem dX7_advance_174 : decode cX7_advance 174 = .ok (.dup, 1) := by decide +kernel
theorem dX7_advance_175 : decode cX7_advance 175 = .ok (.getfield 40, 3) := by decide +kernel
theorem dX7_advance_178 : decode cX7_advance 178 = .ok (.iconst 1, 1) := by decide +kernel
theorem dX7_advance_179 : decode cX7_advance 179 = .ok (.iadd, 1) := by decide +kernel
theorem dX7_advance_180 : decode cX7_advance 180 = .ok (.putfield 40, 3) := by decide +kernel
theorem dX7_advance_183 : decode cX7_advance 183 = .ok (.iload_n 1, 1) := by decide +kernel
theorem dX7_advance_184 : decode cX7_advance 184 = .ok (.ifCond .eq 39, 3) := by decide +kernel
theorem dX7_advance_187 : decode cX7_advance 187 = .ok (.aload_n 0, 1) := by decide +kernel
theorem dX7_advance_188 : decode cX7_advance 188 = .ok (.getfield 49, 3) := by decide +kernel
theorem dX7_advance_191 : decode cX7_advance 191 = .ok (.iload_n 2, 1) := by decide +kernel
theorem dX7_advance_192 : decode cX7_advance 192 = .ok (.if_icmp .ne 31, 3) := by decide +kernel
theorem dX7_advance_195 : decode cX7_advance 195 = .ok (.aload_n 0, 1) := by decide +kernel
theorem dX7_advance_196 : decode cX7_advance 196 = .ok (.getfield 43, 3) := by decide +kernel
theorem dX7_advance_199 : decode cX7_advance 199 = .ok (.ifCond .eq 24, 3) := by decide +kernel
theorem dX7_advance_202 : decode cX7_advance 202 = .ok (.aload_n 0, 1) := by decide +kernel
theorem dX7_advance_203 : decode cX7_advance 203 = .ok (.getfield 43, 3) := by decide +kernel
theorem dX7_advance_206 : decode cX7_advance 206 = .ok (.iconst 3, 1) := by decide +kernel
theorem dX7_advance_207 : decode cX7_advance 207 = .ok (.if_icmp .eq 16, 3) := by decide +kernel
theorem dX7_advance_210 : decode cX7_advance 210 = .ok (.aload_n 0, 1) := by decide +kernel
theorem dX7_advance_211 : decode cX7_advance 211 = .ok (.iconst 4, 1) := by decide +kernel
theorem dX7_advance_212 : decode cX7_advance 212 = .ok (.putfield 43, 3) := by decide +kernel
theorem dX7_advance_215 : decode cX7_advance 215 = .ok (.aload_n 0, 1) := by decide +kernel
theorem dX7_advance_216 : decode cX7_advance 216 = .ok (.aload_n 0, 1) := by decide +kernel
theorem dX7_advance_217 : decode cX7_advance 217 = .ok (.getfield 49, 3) := by decide +kernel
theorem dX7_advance_220 : decode cX7_advance 220 = .ok (.putfield 52, 3) := by decide +kernel
theorem dX7_advance_223 : decode cX7_advance 223 = .ok (.return_, 1) := by decide +kernel
theorem dX2_opens_0 : decode cX2_opens 0 = .ok (.iload_n 1, 1) := by decide +kernel
theorem dX2_opens_1 : decode cX2_opens 1 = .ok (.bipush 7, 2) := by decide +kernel
theorem dX2_opens_3 : decode cX2_opens 3 = .ok (.if_icmp .lt 12, 3) := by decide +kernel
theorem dX2_opens_6 : decode cX2_opens 6 = .ok (.aload_n 0, 1) := by decide +kernel
theorem dX2_opens_7 : decode cX2_opens 7 = .ok (.getfield 9, 3) := by decide +kernel
theorem dX2_opens_10 : decode cX2_opens 10 = .ok (.iconst 5, 1) := by decide +kernel
theorem dX2_opens_11 : decode cX2_opens 11 = .ok (.invokevirtual 99, 3) := by decide +kernel
theorem dX2_opens_14 : decode cX2_opens 14 = .ok (.ireturn, 1) := by decide +kernel
theorem dX2_opens_15 : decode cX2_opens 15 = .ok (.aload_n 0, 1) := by decide +kernel
theorem dX2_opens_16 : decode cX2_opens 16 = .ok (.getfield 9, 3) := by decide +kernel
theorem dX2_opens_19 : decode cX2_opens 19 = .ok (.invokevirtual 32, 3) := by decide +kernel
theorem dX2_opens_22 : decode cX2_opens 22 = .ok (.iconst 1, 1) := by decide +kernel
theorem dX2_opens_23 : decode cX2_opens 23 = .ok (.ireturn, 1) := by decide +kernel
theorem dX7_isSign_0 : decode cX7_isSign 0 = .ok (.aload_n 0, 1) := by decide +kernel
theorem dX7_isSign_1 : decode cX7_isSign 1 = .ok (.getfield 43, 3) := by decide +kernel
theorem dX7_isSign_4 : decode cX7_isSign 4 = .ok (.iconst 3, 1) := by decide +kernel
theorem dX7_isSign_5 : decode cX7_isSign 5 = .ok (.if_icmp .ne 15, 3) := by decide +kernel
theorem dX7_isSign_8 : decode cX7_isSign 8 = .ok (.aload_n 0, 1) := by decide +kernel
theorem dX7_isSign_9 : decode cX7_isSign 9 = .ok (.getfield 70, 3) := by decide +kernel
theorem dX7_isSign_12 : decode cX7_isSign 12 = .ok (.iload_n 1, 1) := by decide +kernel
theorem dX7_isSign_13 : decode cX7_isSign 13 = .ok (.if_icmp .ne 7, 3) := by decide +kernel
theorem dX7_isSign_16 : decode cX7_isSign 16 = .ok (.iconst 1, 1) := by decide +kernel
theorem dX7_isSign_17 : decode cX7_isSign 17 = .ok (.goto 4, 3) := by decide +kernel
theorem dX7_isSign_20 : decode cX7_isSign 20 = .ok (.iconst 0, 1) := by decide +kernel
theorem dX7_isSign_21 : decode cX7_isSign 21 = .ok (.ireturn, 1) := by decide +kernel
theorem dX7_misplaced_0 : decode cX7_misplaced 0 = .ok (.aload_n 0, 1) := by decide +kernel
theorem dX7_misplaced_1 : decode cX7_misplaced 1 = .ok (.iconst 1, 1) := by decide +kernel
theorem dX7_misplaced_2 : decode cX7_misplaced 2 = .ok (.putfield 37, 3) := by decide +kernel
theorem dX7_misplaced_5 : decode cX7_misplaced 5 = .ok (.aload_n 0, 1) := by decide +kernel
theorem dX7_misplaced_6 : decode cX7_misplaced 6 = .ok (.aload_n 0, 1) := by decide +kernel
theorem dX7_misplaced_7 : decode cX7_misplaced 7 = .ok (.getfield 52, 3) := by decide +kernel
theorem dX7_misplaced_10 : decode cX7_misplaced 10 = .ok (.putfield 15, 3) := by decide +kernel
theorem dX7_misplaced_13 : decode cX7_misplaced 13 = .ok (.iconst 0, 1) := by decide +kernel
theorem dX7_misplaced_14 : decode cX7_misplaced 14 = .ok (.ireturn, 1) := by decide +kernel
theorem dX7_takeSign_0 : decode cX7_takeSign 0 = .ok (.aload_n 0, 1) := by decide +kernel
theorem dX7_takeSign_1 : decode cX7_takeSign 1 = .ok (.iload_n 1, 1) := by decide +kernel
theorem dX7_takeSign_2 : decode cX7_takeSign 2 = .ok (.invokevirtual 73, 3) := by decide +kernel
theorem dX7_takeSign_5 : decode cX7_takeSign 5 = .ok (.ifCond .ne 8, 3) := by decide +kernel
theorem dX7_takeSign_8 : decode cX7_takeSign 8 = .ok (.aload_n 0, 1) := by decide +kernel
theorem dX7_takeSign_9 : decode cX7_takeSign 9 = .ok (.invokevirtual 77, 3) := by decide +kernel
theorem dX7_takeSign_12 : decode cX7_takeSign 12 = .ok (.ireturn, 1) := by decide +kernel
theorem dX7_takeSign_13 : decode cX7_takeSign 13 = .ok (.aload_n 0, 1) := by decide +kernel
theorem dX7_takeSign_14 : decode cX7_takeSign 14 = .ok (.invokevirtual 46, 3) := by decide +kernel
theorem dX7_takeSign_17 : decode cX7_takeSign 17 = .ok (.iconst 1, 1) := by decide +kernel
theorem dX7_takeSign_18 : decode cX7_takeSign 18 = .ok (.ireturn, 1) := by decide +kernel
theorem dX2_take_0 : decode cX2_take 0 = .ok (.aload_n 0, 1) := by decide +kernel
theorem dX2_take_1 : decode cX2_take 1 = .ok (.getfield 9, 3) := by decide +kernel
theorem dX2_take_4 : decode cX2_take 4 = .ok (.invokevirtual 32, 3) := by decide +kernel
theorem dX2_take_7 : decode cX2_take 7 = .ok (.aload_n 0, 1) := by decide +kernel
theorem dX2_take_8 : decode cX2_take 8 = .ok (.getfield 15, 3) := by decide +kernel
theorem dX2_take_11 : decode cX2_take 11 = .ok (.iload_n 1, 1) := by decide +kernel
theorem dX2_take_12 : decode cX2_take 12 = .ok (.invokevirtual 37, 3) := by decide +kernel
theorem dX2_take_15 : decode cX2_take 15 = .ok (.ireturn, 1) := by decide +kernel
theorem dX2_opensBracket_0 : decode cX2_opensBracket 0 = .ok (.aload_n 0, 1) := by decide +kernel
theorem dX2_opensBracket_1 : decode cX2_opensBracket 1 = .ok (.getfield 9, 3) := by decide +kernel
theorem dX2_opensBracket_4 : decode cX2_opensBracket 4 = .ok (.bipush 40, 2) := by decide +kernel
theorem dX2_opensBracket_6 : decode cX2_opensBracket 6 = .ok (.invokevirtual 46, 3) := by decide +kernel
theorem dX2_opensBracket_9 : decode cX2_opensBracket 9 = .ok (.ifCond .eq 11, 3) := by decide +kernel
theorem dX2_opensBracket_12 : decode cX2_opensBracket 12 = .ok (.aload_n 0, 1) := by decide +kernel
theorem dX2_opensBracket_13 : decode cX2_opensBracket 13 = .ok (.iload_n 1, 1) := by decide +kernel
theorem dX2_opensBracket_14 : decode cX2_opensBracket 14 = .ok (.invokevirtual 43, 3) := by decide +kernel
theorem dX2_opensBracket_17 : decode cX2_opensBracket 17 = .ok (.goto 10, 3) := by decide +kernel
theorem dX2_opensBracket_20 : decode cX2_opensBracket 20 = .ok (.aload_n 0, 1) := by decide +kernel
theorem dX2_opensBracket_21 : decode cX2_opensBracket 21 = .ok (.getfield 9, 3) := by decide +kernel
theorem dX2_opensBracket_24 : decode cX2_opensBracket 24 = .ok (.invokevirtual 66, 3) := by decide +kernel
theorem dX2_opensBracket_27 : decode cX2_opensBracket 27 = .ok (.ireturn, 1) := by decide +kernel
theorem dX2_productCode_0 : decode cX2_productCode 0 = .ok (.aload_n 0, 1) := by decide +kernel
theorem dX2_productCode_1 : decode cX2_productCode 1 = .ok (.getfield 9, 3) := by decide +kernel
theorem dX2_productCode_4 : decode cX2_productCode 4 = .ok (.bipush 42, 2) := by decide +kernel
theorem dX2_productCode_6 : decode cX2_productCode 6 = .ok (.invokevirtual 46, 3) := by decide +kernel
theorem dX2_productCode_9 : decode cX2_productCode 9 = .ok (.ifCond .eq 6, 3) := by decide +kernel
theorem dX2_productCode_12 : decode cX2_productCode 12 = .ok (.bipush (-10), 2) := by decide +kernel
theorem dX2_productCode_14 : decode cX2_productCode 14 = .ok (.ireturn, 1) := by decide +kernel
theorem dX2_productCode_15 : decode cX2_productCode 15 = .ok (.aload_n 0, 1) := by decide +kernel
theorem dX2_productCode_16 : decode cX2_productCode 16 = .ok (.getfield 9, 3) := by decide +kernel
theorem dX2_productCode_19 : decode cX2_productCode 19 = .ok (.bipush 47, 2) := by decide +kernel
theorem dX2_productCode_21 : decode cX2_productCode 21 = .ok (.invokevirtual 46, 3) := by decide +kernel
theorem dX2_productCode_24 : decode cX2_productCode 24 = .ok (.ifCond .eq 6, 3) := by decide +kernel
theorem dX2_productCode_27 : decode cX2_productCode 27 = .ok (.bipush (-11), 2) := by decide +kernel
theorem dX2_productCode_29 : decode cX2_productCode 29 = .ok (.ireturn, 1) := by decide +kernel
theorem dX2_productCode_30 : decode cX2_productCode 30 = .ok (.aload_n 0, 1) := by decide +kernel
theorem dX2_productCode_31 : decode cX2_productCode 31 = .ok (.getfield 9, 3) := by decide +kernel
theorem dX2_productCode_34 : decode cX2_productCode 34 = .ok (.bipush 37, 2) := by decide +kernel
theorem dX2_productCode_36 : decode cX2_productCode 36 = .ok (.invokevirtual 46, 3) := by decide +kernel
theorem dX2_productCode_39 : decode cX2_productCode 39 = .ok (.ifCond .eq 8, 3) := by decide +kernel
theorem dX2_productCode_42 : decode cX2_productCode 42 = .ok (.bipush (-12), 2) := by decide +kernel
theorem dX2_productCode_44 : decode cX2_productCode 44 = .ok (.goto 4, 3) := by decide +kernel
theorem dX2_productCode_47 : decode cX2_productCode 47 = .ok (.iconst 0, 1) := by decide +kernel
theorem dX2_productCode_48 : decode cX2_productCode 48 = .ok (.ireturn, 1) := by decide +kernel
theorem dX2_comparison_0 : decode cX2_comparison 0 = .ok (.aload_n 0, 1) := by decide +kernel
theorem dX2_comparison_1 : decode cX2_comparison 1 = .ok (.getfield 9, 3) := by decide +kernel
theorem dX2_comparison_4 : decode cX2_comparison 4 = .ok (.bipush 60, 2) := by decide +kernel
theorem dX2_comparison_6 : decode cX2_comparison 6 = .ok (.invokevirtual 46, 3) := by decide +kernel
theorem dX2_comparison_9 : decode cX2_comparison 9 = .ok (.ifCond .eq 6, 3) := by decide +kernel
theorem dX2_comparison_12 : decode cX2_comparison 12 = .ok (.bipush (-15), 2) := by decide +kernel
theorem dX2_comparison_14 : decode cX2_comparison 14 = .ok (.ireturn, 1) := by decide +kernel
theorem dX2_comparison_15 : decode cX2_comparison 15 = .ok (.aload_n 0, 1) := by decide +kernel
theorem dX2_comparison_16 : decode cX2_comparison 16 = .ok (.getfield 9, 3) := by decide +kernel
theorem dX2_comparison_19 : decode cX2_comparison 19 = .ok (.bipush 62, 2) := by decide +kernel
theorem dX2_comparison_21 : decode cX2_comparison 21 = .ok (.invokevirtual 46, 3) := by decide +kernel
theorem dX2_comparison_24 : decode cX2_comparison 24 = .ok (.ifCond .eq 6, 3) := by decide +kernel
theorem dX2_comparison_27 : decode cX2_comparison 27 = .ok (.bipush (-16), 2) := by decide +kernel
theorem dX2_comparison_29 : decode cX2_comparison 29 = .ok (.ireturn, 1) := by decide +kernel
theorem dX2_comparison_30 : decode cX2_comparison 30 = .ok (.aload_n 0, 1) := by decide +kernel
theorem dX2_comparison_31 : decode cX2_comparison 31 = .ok (.getfield 9, 3) := by decide +kernel
theorem dX2_comparison_34 : decode cX2_comparison 34 = .ok (.bipush 61, 2) := by decide +kernel
theorem dX2_comparison_36 : decode cX2_comparison 36 = .ok (.invokevirtual 46, 3) := by decide +kernel
theorem dX2_comparison_39 : decode cX2_comparison 39 = .ok (.ifCond .eq 8, 3) := by decide +kernel
theorem dX2_comparison_42 : decode cX2_comparison 42 = .ok (.bipush (-17), 2) := by decide +kernel
theorem dX2_comparison_44 : decode cX2_comparison 44 = .ok (.goto 4, 3) := by decide +kernel
theorem dX2_comparison_47 : decode cX2_comparison 47 = .ok (.iconst 0, 1) := by decide +kernel
theorem dX2_comparison_48 : decode cX2_comparison 48 = .ok (.ireturn, 1) := by decide +kernel
set_option maxRecDepth 20000 in
theorem w_X7_digitAt_J43 {Y : YT} {X : CX} (C : Cx Y X cX7_digitAt 2 RX7 1) {Q : Int → Mem → Prop} (hR : Rt Y X (some .int) (PQi Y Q)) {s0 : Int}  {M : Mem}  (h : m_X7_digitAt_J43  Q s0 M) : G Y X 2 43 [] ((vI s0) :: []) M := by
  unfold m_X7_digitAt_J43 at h
  exact g_reti C hR dX7_digitAt_43 h
set_option maxRecDepth 20000 in
theorem w_X7_digitAt_J42 {Y : YT} {X : CX} (C : Cx Y X cX7_digitAt 2 RX7 1) {Q : Int → Mem → Prop} (hR : Rt Y X (some .int) (PQi Y Q))   {M : Mem}  (h : m_X7_digitAt_J42  Q  M) : G Y X 2 42 [] ([]) M := by
  unfold m_X7_digitAt_J42 at h
  refine g_iconst C dX7_digitAt_42 rfl ?_
  refine G.sub [] rfl ?_
  exact w_X7_digitAt_J43 C hR  h
set_option maxRecDepth 20000 in
theorem t_X7_digitAt {l : Launch} {Y : YT} (hY : YOK Y) {a0 : Int} {M : Mem} {Q : Int → Mem → Prop} (h : m_X7_digitAt a0 M Q) : Ctr l Y yX7_digitAt cX7_digitAt 2 (some .int) 1 [vR Y 1, vI a0] M (PQi Y Q) := by
  unfold m_X7_digitAt at h
  refine ctr_ofF hY (by decide +kernel) (Nat.le_of_ble_eq_true rfl) [(0, vR Y 1), (1, vI a0)] rfl (fun X hX C hR => ?_)
  refine g_iload_n (q := 1) C dX7_digitAt_0 rfl rfl ?_
  refine g_aload_n (q := 0) C dX7_digitAt_1 rfl rfl ?_
  refine g_getI C fX7_34 (by decide) dX7_digitAt_2 kd_1 ?_
  obtain ⟨g1, h⟩ := h
  obtain ⟨g2, h⟩ := h
  obtain ⟨ht, hf⟩ := h
  refine g_icmp_ge (tgt := 42) C dX7_digitAt_5 (by decide) g1 g2 (fun c => ?_) (fun c => ?_)
  · have h := ht c
    refine G.sub [] rfl ?_
    exact w_X7_digitAt_J42 C hR  h
  · have h := hf c
    refine g_aload_n (q := 0) C dX7_digitAt_8 rfl rfl ?_
    refine g_getS (v := 2) C fX7_9 dX7_digitAt_9 kd_1 rfl ?_
    refine g_iload_n (q := 1) C dX7_digitAt_12 rfl rfl ?_
    obtain ⟨g3, h⟩ := h
    refine g_iald C dX7_digitAt_13 kd_2 ln_2 g3 ?_
    refine g_bipush (v := 48) C dX7_digitAt_14 (by decide +kernel) ?_
    obtain ⟨g4, h⟩ := h
    obtain ⟨ht, hf⟩ := h
    refine g_icmp_lt (tgt := 42) C dX7_digitAt_16 (by decide) g4 (by decide) (fun c => ?_) (fun c => ?_)
    · have h := ht c
      refine G.sub [] rfl ?_
      exact w_X7_digitAt_J42 C hR  h
    · have h := hf c
      refine g_aload_n (q := 0) C dX7_digitAt_19 rfl rfl ?_
      refine g_getS (v := 2) C fX7_9 dX7_digitAt_20 kd_1 rfl ?_
      refine g_iload_n (q := 1) C dX7_digitAt_23 rfl rfl ?_
      obtain ⟨g5, h⟩ := h
      refine g_iald C dX7_digitAt_24 kd_2 ln_2 g5 ?_
      refine g_bipush (v := 57) C dX7_digitAt_25 (by decide +kernel) ?_
      obtain ⟨g6, h⟩ := h
      obtain ⟨ht, hf⟩ := h
      refine g_icmp_gt (tgt := 42) C dX7_digitAt_27 (by decide) g6 (by decide) (fun c => ?_) (fun c => ?_)
      · have h := ht c
        refine G.sub [] rfl ?_
        exact w_X7_digitAt_J42 C hR  h
      · have h := hf c
        refine g_aload_n (q := 0) C dX7_digitAt_30 rfl rfl ?_
        refine g_getS (v := 2) C fX7_9 dX7_digitAt_31 kd_1 rfl ?_
        refine g_iload_n (q := 1) C dX7_digitAt_34 rfl rfl ?_
        obtain ⟨g7, h⟩ := h
        refine g_iald C dX7_digitAt_35 kd_2 ln_2 g7 ?_
        refine g_bipush (v := 48) C dX7_digitAt_36 (by decide +kernel) ?_
        refine g_isub C dX7_digitAt_38 ?_
        refine g_goto (tgt := 43) C dX7_digitAt_39 (by decide) ?_
        refine G.sub [] rfl ?_
        exact w_X7_digitAt_J43 C hR  h
set_option maxRecDepth 20000 in
theorem w_X7_readNumber_J88 {Y : YT} {X : CX} (C : Cx Y X cX7_readNumber 2 RX7 2) {Q : Mem → Prop} (hR : Rt Y X none (PQv Y Q))   {M : Mem}  (h : m_X7_readNumber_J88  Q  M) : G Y X 2 88 [] ([]) M := by
  unfold m_X7_readNumber_J88 at h
  exact g_retv C hR dX7_readNumber_88 h
set_option maxRecDepth 20000 in
theorem w_X7_readNumber_J64 {Y : YT} {X : CX} (C : Cx Y X cX7_readNumber 2 RX7 2) {Q : Mem → Prop} (hR : Rt Y X none (PQv Y Q))   {M : Mem}  (h : m_X7_readNumber_J64  Q  M) : G Y X 2 64 [(0, vR Y 1)] ([]) M := by
  unfold m_X7_readNumber_J64 at h
  refine g_aload_n (q := 0) C dX7_readNumber_64 rfl rfl ?_
  refine g_aload_n (q := 0) C dX7_readNumber_65 rfl rfl ?_
  refine g_getI C fX7_40 (by decide) dX7_readNumber_66 kd_1 ?_
  refine g_cVi (As := [vI (M 1 9)]) C clX7_64 clvX7_digitAt dX7_readNumber_69 kd_1 rfl (Nat.le_of_ble_eq_true rfl) rfl (by decide) (t_X7_digitAt (Cx.ok C) h) (fun r2 M1 h => ?_)
  obtain ⟨g3, h⟩ := h
  obtain ⟨ht, hf⟩ := h
  refine g_if_lt (tgt := 88) C dX7_readNumber_72 (by decide) g3 (fun c => ?_) (fun c => ?_)
  · have h := ht c
    refine G.sub [] rfl ?_
    exact w_X7_readNumber_J88 C hR  h
  · have h := hf c
    refine g_aload_n (q := 0) C dX7_readNumber_75 rfl rfl ?_
    refine g_iconst C dX7_readNumber_76 rfl ?_
    obtain ⟨M4, e_M4⟩ : ∃ z : Mem, z = up M1 1 2 4 := ⟨_, rfl⟩
    have h := h M4 e_M4
    refine g_putI C fX7_43 pX7_43 dX7_readNumber_77 kd_1 e_M4 ?_
    refine g_aload_n (q := 0) C dX7_readNumber_80 rfl rfl ?_
    refine g_aload_n (q := 0) C dX7_readNumber_81 rfl rfl ?_
    refine g_getI C fX7_40 (by decide) dX7_readNumber_82 kd_1 ?_
    obtain ⟨M5, e_M5⟩ : ∃ z : Mem, z = up M4 1 10 (M4 1 9) := ⟨_, rfl⟩
    have h := h M5 e_M5
    refine g_putI C fX7_52 pX7_52 dX7_readNumber_85 kd_1 e_M5 ?_
    refine G.sub [] rfl ?_
    exact w_X7_readNumber_J88 C hR  h
set_option maxRecDepth 20000 in
theorem w_X7_readNumber_L12 {Y : YT} {X : CX} (C : Cx Y X cX7_readNumber 2 RX7 2) {Q : Mem → Prop} (hR : Rt Y X none (PQv Y Q))   : ∀ (f : Nat) (v1 : Int) (M : Mem), m_X7_readNumber_L12  Q f v1 M → G Y X 2 12 [(0, vR Y 1), (1, vI v1)] ([]) M := by
  intro f
  induction f with
  | zero =>
    intro v1 M h
    exact (show False from h).elim
  | succ f ih =>
    intro v1 M h
    unfold m_X7_readNumber_L12 at h
    refine g_iload_n (q := 1) C dX7_readNumber_12 rfl rfl ?_
    refine g_iconst C dX7_readNumber_13 rfl ?_
    obtain ⟨g6, h⟩ := h
    obtain ⟨ht, hf⟩ := h
    refine g_icmp_ge (tgt := 64) C dX7_readNumber_14 (by decide) g6 (by decide) (fun c => ?_) (fun c => ?_)
    · have h := ht c
      refine G.sub [0] rfl ?_
      exact w_X7_readNumber_J64 C hR  h
    · have h := hf c
      refine g_aload_n (q := 0) C dX7_readNumber_17 rfl rfl ?_
      refine g_aload_n (q := 0) C dX7_readNumber_18 rfl rfl ?_
      refine g_getI C fX7_40 (by decide) dX7_readNumber_19 kd_1 ?_
      refine g_cVi (As := [vI (M 1 9)]) C clX7_64 clvX7_digitAt dX7_readNumber_22 kd_1 rfl (Nat.le_of_ble_eq_true rfl) rfl (by decide) (t_X7_digitAt (Cx.ok C) h) (fun r8 M7 h => ?_)
      obtain ⟨g9, h⟩ := h
      obtain ⟨ht, hf⟩ := h
      refine g_if_lt (tgt := 64) C dX7_readNumber_25 (by decide) g9 (fun c => ?_) (fun c => ?_)
      · have h := ht c
        refine G.sub [0] rfl ?_
        exact w_X7_readNumber_J64 C hR  h
      · have h := hf c
        refine g_aload_n (q := 0) C dX7_readNumber_28 rfl rfl ?_
        refine g_bipush (v := 10) C dX7_readNumber_29 (by decide +kernel) ?_
        refine g_aload_n (q := 0) C dX7_readNumber_31 rfl rfl ?_
        refine g_getI C fX7_70 (by decide) dX7_readNumber_32 kd_1 ?_
        refine g_imul C dX7_readNumber_35 ?_
        refine g_aload_n (q := 0) C dX7_readNumber_36 rfl rfl ?_
        refine g_aload_n (q := 0) C dX7_readNumber_37 rfl rfl ?_
        refine g_getI C fX7_40 (by decide) dX7_readNumber_38 kd_1 ?_
        refine g_cVi (As := [vI (M7 1 9)]) C clX7_64 clvX7_digitAt dX7_readNumber_41 kd_1 rfl (Nat.le_of_ble_eq_true rfl) rfl (by decide) (t_X7_digitAt (Cx.ok C) h) (fun r11 M10 h => ?_)
        refine g_iadd C dX7_readNumber_44 ?_
        obtain ⟨M12, e_M12⟩ : ∃ z : Mem, z = up M10 1 4 ((10 * (M7 1 4)) + r11) := ⟨_, rfl⟩
        have h := h M12 e_M12
        refine g_putI C fX7_70 pX7_70 dX7_readNumber_45 kd_1 e_M12 ?_
        refine g_aload_n (q := 0) C dX7_readNumber_48 rfl rfl ?_
        refine g_dup C dX7_readNumber_49 rfl ?_
        refine g_getI C fX7_40 (by decide) dX7_readNumber_50 kd_1 ?_
        refine g_iconst C dX7_readNumber_53 rfl ?_
        refine g_iadd C dX7_readNumber_54 ?_
        obtain ⟨M13, e_M13⟩ : ∃ z : Mem, z = up M12 1 9 ((M12 1 9) + 1) := ⟨_, rfl⟩
        have h := h M13 e_M13
        refine g_putI C fX7_40 pX7_40 dX7_readNumber_55 kd_1 e_M13 ?_
        refine g_iinc (q := 1) (v := v1 + 1) (lv' := [(1, vI (v1 + 1)), (0, vR Y 1)]) C dX7_readNumber_58 rfl rfl (by decide) rfl ?_
        refine g_goto (tgt := 12) C dX7_readNumber_61 (by decide) ?_
        refine G.sub [1, 0] rfl ?_
        exact ih _ _ h
set_option maxRecDepth 20000 in
theorem t_X7_readNumber {l : Launch} {Y : YT} (hY : YOK Y) {M : Mem} {Q : Mem → Prop} (h : m_X7_readNumber  M Q) : Ctr l Y yX7_readNumber cX7_readNumber 2 none 2 [vR Y 1] M (PQv Y Q) := by
  unfold m_X7_readNumber at h
  refine ctr_ofF hY (by decide +kernel) (Nat.le_of_ble_eq_true rfl) [(0, vR Y 1)] rfl (fun X hX C hR => ?_)
  refine g_aload_n (q := 0) C dX7_readNumber_0 rfl rfl ?_
  refine g_iconst C dX7_readNumber_1 rfl ?_
  obtain ⟨M14, e_M14⟩ : ∃ z : Mem, z = up M 1 2 2 := ⟨_, rfl⟩
  have h := h M14 e_M14
  refine g_putI C fX7_43 pX7_43 dX7_readNumber_2 kd_1 e_M14 ?_
  refine g_aload_n (q := 0) C dX7_readNumber_5 rfl rfl ?_
  refine g_iconst C dX7_readNumber_6 rfl ?_
  obtain ⟨M15, e_M15⟩ : ∃ z : Mem, z = up M14 1 4 0 := ⟨_, rfl⟩
  have h := h M15 e_M15
  refine g_putI C fX7_70 pX7_70 dX7_readNumber_7 kd_1 e_M15 ?_
  refine g_iconst C dX7_readNumber_10 rfl ?_
  refine g_istore_n (lv' := [(1, vI 0), (0, vR Y 1)]) C dX7_readNumber_11 rfl (by decide) rfl ?_
  obtain ⟨f0, h⟩ := h
  refine G.sub [1, 0] rfl ?_
  exact w_X7_readNumber_L12 C hR  f0 _ _ h
set_option maxRecDepth 20000 in
theorem w_X7_advance_J223 {Y : YT} {X : CX} (C : Cx Y X cX7_advance 3 RX7 3) {Q : Mem → Prop} (hR : Rt Y X none (PQv Y Q))   {M : Mem}  (h : m_X7_advance_J223  Q  M) : G Y X 3 223 [] ([]) M := by
  unfold m_X7_advance_J223 at h
  exact g_retv C hR dX7_advance_223 h
set_option maxRecDepth 20000 in
theorem w_X7_advance_J183 {Y : YT} {X : CX} (C : Cx Y X cX7_advance 3 RX7 3) {Q : Mem → Prop} (hR : Rt Y X none (PQv Y Q)) {v1 : Int} {v2 : Int}  {M : Mem}  (h : m_X7_advance_J183  Q v1 v2 M) : G Y X 3 183 [(0, vR Y 1), (1, vI v1), (2, vI v2)] ([]) M := by
  unfold m_X7_advance_J183 at h
  refine g_iload_n (q := 1) C dX7_advance_183 rfl rfl ?_
  obtain ⟨g1, h⟩ := h
  obtain ⟨ht, hf⟩ := h
  refine g_if_eq (tgt := 223) C dX7_advance_184 (by decide) g1 (fun c => ?_) (fun c => ?_)
  · have h := ht c
    refine G.sub [] rfl ?_
    exact w_X7_advance_J223 C hR  h
  · have h := hf c
    refine g_aload_n (q := 0) C dX7_advance_187 rfl rfl ?_
    refine g_getI C fX7_49 (by decide) dX7_advance_188 kd_1 ?_
    refine g_iload_n (q := 2) C dX7_advance_191 rfl rfl ?_
    obtain ⟨g2, h⟩ := h
    obtain ⟨g3, h⟩ := h
    obtain ⟨ht, hf⟩ := h
    refine g_icmp_ne (tgt := 223) C dX7_advance_192 (by decide) g2 g3 (fun c => ?_) (fun c => ?_)
    · have h := hf c
      refine G.sub [] rfl ?_
      exact w_X7_advance_J223 C hR  h
    · have h := ht c
      refine g_aload_n (q := 0) C dX7_advance_195 rfl rfl ?_
      refine g_getI C fX7_43 (by decide) dX7_advance_196 kd_1 ?_
      obtain ⟨g4, h⟩ := h
      obtain ⟨ht, hf⟩ := h
      refine g_if_eq (tgt := 223) C dX7_advance_199 (by decide) g4 (fun c => ?_) (fun c => ?_)
      · have h := ht c
        refine G.sub [] rfl ?_
        exact w_X7_advance_J223 C hR  h
      · have h := hf c
        refine g_aload_n (q := 0) C dX7_advance_202 rfl rfl ?_
        refine g_getI C fX7_43 (by decide) dX7_advance_203 kd_1 ?_
        refine g_iconst C dX7_advance_206 rfl ?_
        obtain ⟨g5, h⟩ := h
        obtain ⟨ht, hf⟩ := h
        refine g_icmp_eq (tgt := 223) C dX7_advance_207 (by decide) g5 (by decide) (fun c => ?_) (fun c => ?_)
        · have h := ht c
          refine G.sub [] rfl ?_
          exact w_X7_advance_J223 C hR  h
        · have h := hf c
          refine g_aload_n (q := 0) C dX7_advance_210 rfl rfl ?_
          refine g_iconst C dX7_advance_211 rfl ?_
          obtain ⟨M6, e_M6⟩ : ∃ z : Mem, z = up M 1 2 4 := ⟨_, rfl⟩
          have h := h M6 e_M6
          refine g_putI C fX7_43 pX7_43 dX7_advance_212 kd_1 e_M6 ?_
          refine g_aload_n (q := 0) C dX7_advance_215 rfl rfl ?_
          refine g_aload_n (q := 0) C dX7_advance_216 rfl rfl ?_
          refine g_getI C fX7_49 (by decide) dX7_advance_217 kd_1 ?_
          obtain ⟨M7, e_M7⟩ : ∃ z : Mem, z = up M6 1 10 (M6 1 3) := ⟨_, rfl⟩
          have h := h M7 e_M7
          refine g_putI C fX7_52 pX7_52 dX7_advance_220 kd_1 e_M7 ?_
          refine G.sub [] rfl ?_
          exact w_X7_advance_J223 C hR  h
set_option maxRecDepth 20000 in
theorem w_X7_advance_J79 {Y : YT} {X : CX} (C : Cx Y X cX7_advance 3 RX7 3) {Q : Mem → Prop} (hR : Rt Y X none (PQv Y Q)) {v1 : Int} {v2 : Int}  {M : Mem}  (h : m_X7_advance_J79  Q v1 v2 M) : G Y X 3 79 [(0, vR Y 1), (1, vI v1), (2, vI v2)] ([]) M := by
  unfold m_X7_advance_J79 at h
  refine g_aload_n (q := 0) C dX7_advance_79 rfl rfl ?_
  refine g_aload_n (q := 0) C dX7_advance_80 rfl rfl ?_
  refine g_getI C fX7_40 (by decide) dX7_advance_81 kd_1 ?_
  obtain ⟨M8, e_M8⟩ : ∃ z : Mem, z = up M 1 3 (M 1 9) := ⟨_, rfl⟩
  have h := h M8 e_M8
  refine g_putI C fX7_49 pX7_49 dX7_advance_84 kd_1 e_M8 ?_
  refine g_aload_n (q := 0) C dX7_advance_87 rfl rfl ?_
  refine g_aload_n (q := 0) C dX7_advance_88 rfl rfl ?_
  refine g_getI C fX7_40 (by decide) dX7_advance_89 kd_1 ?_
  obtain ⟨M9, e_M9⟩ : ∃ z : Mem, z = up M8 1 10 (M8 1 9) := ⟨_, rfl⟩
  have h := h M9 e_M9
  refine g_putI C fX7_52 pX7_52 dX7_advance_92 kd_1 e_M9 ?_
  refine g_aload_n (q := 0) C dX7_advance_95 rfl rfl ?_
  refine g_iconst C dX7_advance_96 rfl ?_
  obtain ⟨M10, e_M10⟩ : ∃ z : Mem, z = up M9 1 5 (-1) := ⟨_, rfl⟩
  have h := h M10 e_M10
  refine g_putI C fX7_55 pX7_55 dX7_advance_97 kd_1 e_M10 ?_
  refine g_aload_n (q := 0) C dX7_advance_100 rfl rfl ?_
  refine g_getI C fX7_40 (by decide) dX7_advance_101 kd_1 ?_
  refine g_aload_n (q := 0) C dX7_advance_104 rfl rfl ?_
  refine g_getI C fX7_34 (by decide) dX7_advance_105 kd_1 ?_
  obtain ⟨g11, h⟩ := h
  obtain ⟨g12, h⟩ := h
  obtain ⟨ht, hf⟩ := h
  refine g_icmp_lt (tgt := 119) C dX7_advance_108 (by decide) g11 g12 (fun c => ?_) (fun c => ?_)
  · have h := ht c
    refine g_aload_n (q := 0) C dX7_advance_119 rfl rfl ?_
    refine g_aload_n (q := 0) C dX7_advance_120 rfl rfl ?_
    refine g_getI C fX7_40 (by decide) dX7_advance_121 kd_1 ?_
    refine g_cVi (As := [vI (M10 1 9)]) C clX7_58 clvX7_letterAt dX7_advance_124 kd_1 rfl (Nat.le_of_ble_eq_true rfl) rfl (by decide) (t_X7_letterAt (Cx.ok C) h) (fun r14 M13 h => ?_)
    obtain ⟨g15, h⟩ := h
    obtain ⟨ht, hf⟩ := h
    refine g_if_le (tgt := 137) C dX7_advance_127 (by decide) g15 (fun c => ?_) (fun c => ?_)
    · have h := ht c
      refine g_aload_n (q := 0) C dX7_advance_137 rfl rfl ?_
      refine g_aload_n (q := 0) C dX7_advance_138 rfl rfl ?_
      refine g_getI C fX7_40 (by decide) dX7_advance_139 kd_1 ?_
      refine g_cVi (As := [vI (M13 1 9)]) C clX7_64 clvX7_digitAt dX7_advance_142 kd_1 rfl (Nat.le_of_ble_eq_true rfl) rfl (by decide) (t_X7_digitAt (Cx.ok C) h) (fun r17 M16 h => ?_)
      obtain ⟨g18, h⟩ := h
      obtain ⟨ht, hf⟩ := h
      refine g_if_lt (tgt := 155) C dX7_advance_145 (by decide) g18 (fun c => ?_) (fun c => ?_)
      · have h := ht c
        refine g_aload_n (q := 0) C dX7_advance_155 rfl rfl ?_
        refine g_iconst C dX7_advance_156 rfl ?_
        obtain ⟨M19, e_M19⟩ : ∃ z : Mem, z = up M16 1 2 3 := ⟨_, rfl⟩
        have h := h M19 e_M19
        refine g_putI C fX7_43 pX7_43 dX7_advance_157 kd_1 e_M19 ?_
        refine g_aload_n (q := 0) C dX7_advance_160 rfl rfl ?_
        refine g_aload_n (q := 0) C dX7_advance_161 rfl rfl ?_
        refine g_getS (v := 2) C fX7_9 dX7_advance_162 kd_1 rfl ?_
        refine g_aload_n (q := 0) C dX7_advance_165 rfl rfl ?_
        refine g_getI C fX7_40 (by decide) dX7_advance_166 kd_1 ?_
        obtain ⟨g20, h⟩ := h
        refine g_iald C dX7_advance_169 kd_2 ln_2 g20 ?_
        obtain ⟨M21, e_M21⟩ : ∃ z : Mem, z = up M19 1 4 (M19 2 (M19 1 9)) := ⟨_, rfl⟩
        have h := h M21 e_M21
        refine g_putI C fX7_70 pX7_70 dX7_advance_170 kd_1 e_M21 ?_
        refine g_aload_n (q := 0) C dX7_advance_173 rfl rfl ?_
        refine g_dup C dX7_advance_174 rfl ?_
        refine g_getI C fX7_40 (by decide) dX7_advance_175 kd_1 ?_
        refine g_iconst C dX7_advance_178 rfl ?_
        refine g_iadd C dX7_advance_179 ?_
        obtain ⟨M22, e_M22⟩ : ∃ z : Mem, z = up M21 1 9 ((M21 1 9) + 1) := ⟨_, rfl⟩
        have h := h M22 e_M22
        refine g_putI C fX7_40 pX7_40 dX7_advance_180 kd_1 e_M22 ?_
        refine G.sub [0, 1, 2] rfl ?_
        exact w_X7_advance_J183 C hR  h
      · have h := hf c
        refine g_aload_n (q := 0) C dX7_advance_148 rfl rfl ?_
        refine g_cVv (As := []) C clX7_67 clvX7_readNumber dX7_advance_149 kd_1 rfl (Nat.le_of_ble_eq_true rfl) rfl (by decide) (t_X7_readNumber (Cx.ok C) h) (fun M23 h => ?_)
        refine g_goto (tgt := 183) C dX7_advance_152 (by decide) ?_
        refine G.sub [0, 1, 2] rfl ?_
        exact w_X7_advance_J183 C hR  h
    · have h := hf c
      refine g_aload_n (q := 0) C dX7_advance_130 rfl rfl ?_
      refine g_cVv (As := []) C clX7_61 clvX7_readWord dX7_advance_131 kd_1 rfl (Nat.le_of_ble_eq_true rfl) rfl (by decide) (t_X7_readWord (Cx.ok C) h) (fun M24 h => ?_)
      refine g_goto (tgt := 183) C dX7_advance_134 (by decide) ?_
      refine G.sub [0, 1, 2] rfl ?_
      exact w_X7_advance_J183 C hR  h
  · have h := hf c
    refine g_aload_n (q := 0) C dX7_advance_111 rfl rfl ?_
    refine g_iconst C dX7_advance_112 rfl ?_
    obtain ⟨M25, e_M25⟩ : ∃ z : Mem, z = up M10 1 2 0 := ⟨_, rfl⟩
    have h := h M25 e_M25
    refine g_putI C fX7_43 pX7_43 dX7_advance_113 kd_1 e_M25 ?_
    refine g_goto (tgt := 183) C dX7_advance_116 (by decide) ?_
    refine G.sub [0, 1, 2] rfl ?_
    exact w_X7_advance_J183 C hR  h
set_option maxRecDepth 20000 in
theorem w_X7_advance_J66 {Y : YT} {X : CX} (C : Cx Y X cX7_advance 3 RX7 3) {Q : Mem → Prop} (hR : Rt Y X none (PQv Y Q)) {v1 : Int} {v2 : Int} {k27 : Mem → Prop} (hk27 : ∀   (M : Mem), k27 M → G Y X 3 27 [(0, vR Y 1), (1, vI v1), (2, vI v2)] ([]) M) {M : Mem}  (h : m_X7_advance_J66 k27 Q v1 v2 M) : G Y X 3 66 [(0, vR Y 1), (1, vI v1), (2, vI v2)] ([]) M := by
  unfold m_X7_advance_J66 at h
  refine g_aload_n (q := 0) C dX7_advance_66 rfl rfl ?_
  refine g_dup C dX7_advance_67 rfl ?_
  refine g_getI C fX7_40 (by decide) dX7_advance_68 kd_1 ?_
  refine g_iconst C dX7_advance_71 rfl ?_
  refine g_iadd C dX7_advance_72 ?_
  obtain ⟨M26, e_M26⟩ : ∃ z : Mem, z = up M 1 9 ((M 1 9) + 1) := ⟨_, rfl⟩
  have h := h M26 e_M26
  refine g_putI C fX7_40 pX7_40 dX7_advance_73 kd_1 e_M26 ?_
  refine g_goto (tgt := 27) C dX7_advance_76 (by decide) ?_
  refine G.sub [0, 1, 2] rfl ?_
  exact hk27  _ h
set_option maxRecDepth 20000 in
theorem w_X7_advance_L27 {Y : YT} {X : CX} (C : Cx Y X cX7_advance 3 RX7 3) {Q : Mem → Prop} (hR : Rt Y X none (PQv Y Q)) {v1 : Int} {v2 : Int}  : ∀ (f : Nat) (M : Mem), m_X7_advance_L27  Q v1 v2 f  M → G Y X 3 27 [(0, vR Y 1), (1, vI v1), (2, vI v2)] ([]) M := by
  intro f
  induction f with
  | zero =>
    intro M h
    exact (show False from h).elim
  | succ f ih =>
    intro M h
    unfold m_X7_advance_L27 at h
    refine g_aload_n (q := 0) C dX7_advance_27 rfl rfl ?_
    refine g_getI C fX7_40 (by decide) dX7_advance_28 kd_1 ?_
    refine g_aload_n (q := 0) C dX7_advance_31 rfl rfl ?_
    refine g_getI C fX7_34 (by decide) dX7_advance_32 kd_1 ?_
    obtain ⟨g27, h⟩ := h
    obtain ⟨g28, h⟩ := h
    obtain ⟨ht, hf⟩ := h
    refine g_icmp_ge (tgt := 79) C dX7_advance_35 (by decide) g27 g28 (fun c => ?_) (fun c => ?_)
    · have h := ht c
      refine G.sub [0, 1, 2] rfl ?_
      exact w_X7_advance_J79 C hR  h
    · have h := hf c
      refine g_aload_n (q := 0) C dX7_advance_38 rfl rfl ?_
      refine g_getS (v := 2) C fX7_9 dX7_advance_39 kd_1 rfl ?_
      refine g_aload_n (q := 0) C dX7_advance_42 rfl rfl ?_
      refine g_getI C fX7_40 (by decide) dX7_advance_43 kd_1 ?_
      obtain ⟨g29, h⟩ := h
      refine g_iald C dX7_advance_46 kd_2 ln_2 g29 ?_
      refine g_bipush (v := 32) C dX7_advance_47 (by decide +kernel) ?_
      obtain ⟨g30, h⟩ := h
      obtain ⟨ht, hf⟩ := h
      refine g_icmp_eq (tgt := 66) C dX7_advance_49 (by decide) g30 (by decide) (fun c => ?_) (fun c => ?_)
      · have h := ht c
        refine G.sub [0, 1, 2] rfl ?_
        exact w_X7_advance_J66 C hR (ih)  h
      · have h := hf c
        refine g_aload_n (q := 0) C dX7_advance_52 rfl rfl ?_
        refine g_getS (v := 2) C fX7_9 dX7_advance_53 kd_1 rfl ?_
        refine g_aload_n (q := 0) C dX7_advance_56 rfl rfl ?_
        refine g_getI C fX7_40 (by decide) dX7_advance_57 kd_1 ?_
        obtain ⟨g31, h⟩ := h
        refine g_iald C dX7_advance_60 kd_2 ln_2 g31 ?_
        refine g_bipush (v := 10) C dX7_advance_61 (by decide +kernel) ?_
        obtain ⟨g32, h⟩ := h
        obtain ⟨ht, hf⟩ := h
        refine g_icmp_ne (tgt := 79) C dX7_advance_63 (by decide) g32 (by decide) (fun c => ?_) (fun c => ?_)
        · have h := hf c
          refine G.sub [0, 1, 2] rfl ?_
          exact w_X7_advance_J79 C hR  h
        · have h := ht c
          refine G.sub [0, 1, 2] rfl ?_
          exact w_X7_advance_J66 C hR (ih)  h
set_option maxRecDepth 20000 in
theorem w_X7_advance_J21 {Y : YT} {X : CX} (C : Cx Y X cX7_advance 3 RX7 3) {Q : Mem → Prop} (hR : Rt Y X none (PQv Y Q)) {s0 : Int}  {M : Mem}  (h : m_X7_advance_J21  Q s0 M) : G Y X 3 21 [(0, vR Y 1)] ((vI s0) :: []) M := by
  unfold m_X7_advance_J21 at h
  refine g_istore_n (lv' := [(1, vI s0), (0, vR Y 1)]) C dX7_advance_21 rfl (by decide) rfl ?_
  refine g_aload_n (q := 1) C dX7_advance_22 rfl rfl ?_
  refine g_getI C fX7_40 (by decide) dX7_advance_23 kd_1 ?_
  refine g_istore_n (lv' := [(2, vI (M 1 9)), (1, vI s0), (0, vR Y 1)]) C dX7_advance_26 rfl (by decide) rfl ?_
  obtain ⟨f0, h⟩ := h
  refine G.sub [2, 1, 0] rfl ?_
  exact w_X7_advance_L27 C hR  f0  _ h
set_option maxRecDepth 20000 in
theorem w_X7_advance_J16 {Y : YT} {X : CX} (C : Cx Y X cX7_advance 3 RX7 3) {Q : Mem → Prop} (hR : Rt Y X none (PQv Y Q))   {M : Mem}  (h : m_X7_advance_J16  Q  M) : G Y X 3 16 [(0, vR Y 1)] ([]) M := by
  unfold m_X7_advance_J16 at h
  refine g_iconst C dX7_advance_16 rfl ?_
  refine g_goto (tgt := 21) C dX7_advance_17 (by decide) ?_
  refine G.sub [0] rfl ?_
  exact w_X7_advance_J21 C hR  h
set_option maxRecDepth 20000 in
theorem t_X7_advance {l : Launch} {Y : YT} (hY : YOK Y) {M : Mem} {Q : Mem → Prop} (h : m_X7_advance  M Q) : Ctr l Y yX7_advance cX7_advance 3 none 3 [vR Y 1] M (PQv Y Q) := by
  unfold m_X7_advance at h
  refine ctr_ofF hY (by decide +kernel) (Nat.le_of_ble_eq_true rfl) [(0, vR Y 1)] rfl (fun X hX C hR => ?_)
  refine g_aload_n (q := 0) C dX7_advance_0 rfl rfl ?_
  refine g_getI C fX7_43 (by decide) dX7_advance_1 kd_1 ?_
  refine g_iconst C dX7_advance_4 rfl ?_
  obtain ⟨g33, h⟩ := h
  obtain ⟨ht, hf⟩ := h
  refine g_icmp_eq (tgt := 16) C dX7_advance_5 (by decide) g33 (by decide) (fun c => ?_) (fun c => ?_)
  · have h := ht c
    refine G.sub [0] rfl ?_
    exact w_X7_advance_J16 C hR  h
  · have h := hf c
    refine g_aload_n (q := 0) C dX7_advance_8 rfl rfl ?_
    refine g_getI C fX7_43 (by decide) dX7_advance_9 kd_1 ?_
    refine g_iconst C dX7_advance_12 rfl ?_
    obtain ⟨g34, h⟩ := h
    obtain ⟨ht, hf⟩ := h
    refine g_icmp_ne (tgt := 20) C dX7_advance_13 (by decide) g34 (by decide) (fun c => ?_) (fun c => ?_)
    · have h := hf c
      refine g_iconst C dX7_advance_20 rfl ?_
      refine G.sub [0] rfl ?_
      exact w_X7_advance_J21 C hR  h
    · have h := ht c
      refine G.sub [0] rfl ?_
      exact w_X7_advance_J16 C hR  h
set_option maxRecDepth 20000 in
theorem t_X2_opens {l : Launch} {Y : YT} (hY : YOK Y) {a0 : Int} {M : Mem} {Q : Int → Mem → Prop} (h : m_X2_opens a0 M Q) : Ctr l Y yX2_opens cX2_opens 2 (some .boolean) 4 [vR Y 5, vI a0] M (PQi Y Q) := by
  unfold m_X2_opens at h
  refine ctr_ofF hY (by decide +kernel) (Nat.le_of_ble_eq_true rfl) [(0, vR Y 5), (1, vI a0)] rfl (fun X hX C hR => ?_)
  refine g_iload_n (q := 1) C dX2_opens_0 rfl rfl ?_
  refine g_bipush (v := 7) C dX2_opens_1 (by decide +kernel) ?_
  obtain ⟨g1, h⟩ := h
  obtain ⟨ht, hf⟩ := h
  refine g_icmp_lt (tgt := 15) C dX2_opens_3 (by decide) g1 (by decide) (fun c => ?_) (fun c => ?_)
  · have h := ht c
    refine g_aload_n (q := 0) C dX2_opens_15 rfl rfl ?_
    refine g_getS (v := 1) C fX2_9 dX2_opens_16 kd_5 rfl ?_
    refine g_cVv (As := []) C clX2_32 clvX7_advance dX2_opens_19 kd_1 rfl (Nat.le_of_ble_eq_true rfl) rfl (by decide) (t_X7_advance (Cx.ok C) h) (fun M2 h => ?_)
    refine g_iconst C dX2_opens_22 rfl ?_
    exact g_retz C hR dX2_opens_23 (by decide) h
  · have h := hf c
    refine g_aload_n (q := 0) C dX2_opens_6 rfl rfl ?_
    refine g_getS (v := 1) C fX2_9 dX2_opens_7 kd_5 rfl ?_
    refine g_iconst C dX2_opens_10 rfl ?_
    refine g_cVi (As := [vI 5]) C clX2_99 clvX7_fail dX2_opens_11 kd_1 rfl (Nat.le_of_ble_eq_true rfl) rfl (by decide) (t_X7_fail (Cx.ok C) h) (fun r4 M3 h => ?_)
    obtain ⟨g5, h⟩ := h
    exact g_retz C hR dX2_opens_14 g5 h
set_option maxRecDepth 20000 in
theorem w_X7_isSign_J21 {Y : YT} {X : CX} (C : Cx Y X cX7_isSign 2 RX7 1) {Q : Int → Mem → Prop} (hR : Rt Y X (some .boolean) (PQi Y Q)) {s0 : Int}  {M : Mem}  (h : m_X7_isSign_J21  Q s0 M) : G Y X 2 21 [] ((vI s0) :: []) M := by
  unfold m_X7_isSign_J21 at h
  obtain ⟨g1, h⟩ := h
  exact g_retz C hR dX7_isSign_21 g1 h
set_option maxRecDepth 20000 in
theorem w_X7_isSign_J20 {Y : YT} {X : CX} (C : Cx Y X cX7_isSign 2 RX7 1) {Q : Int → Mem → Prop} (hR : Rt Y X (some .boolean) (PQi Y Q))   {M : Mem}  (h : m_X7_isSign_J20  Q  M) : G Y X 2 20 [] ([]) M := by
  unfold m_X7_isSign_J20 at h
  refine g_iconst C dX7_isSign_20 rfl ?_
  refine G.sub [] rfl ?_
  exact w_X7_isSign_J21 C hR  h
set_option maxRecDepth 20000 in
theorem t_X7_isSign {l : Launch} {Y : YT} (hY : YOK Y) {a0 : Int} {M : Mem} {Q : Int → Mem → Prop} (h : m_X7_isSign a0 M Q) : Ctr l Y yX7_isSign cX7_isSign 2 (some .boolean) 1 [vR Y 1, vI a0] M (PQi Y Q) := by
  unfold m_X7_isSign at h
  refine ctr_ofF hY (by decide +kernel) (Nat.le_of_ble_eq_true rfl) [(0, vR Y 1), (1, vI a0)] rfl (fun X hX C hR => ?_)
  refine g_aload_n (q := 0) C dX7_isSign_0 rfl rfl ?_
  refine g_getI C fX7_43 (by decide) dX7_isSign_1 kd_1 ?_
  refine g_iconst C dX7_isSign_4 rfl ?_
  obtain ⟨g2, h⟩ := h
  obtain ⟨ht, hf⟩ := h
  refine g_icmp_ne (tgt := 20) C dX7_isSign_5 (by decide) g2 (by decide) (fun c => ?_) (fun c => ?_)
  · have h := hf c
    refine G.sub [] rfl ?_
    exact w_X7_isSign_J20 C hR  h
  · have h := ht c
    refine g_aload_n (q := 0) C dX7_isSign_8 rfl rfl ?_
    refine g_getI C fX7_70 (by decide) dX7_isSign_9 kd_1 ?_
    refine g_iload_n (q := 1) C dX7_isSign_12 rfl rfl ?_
    obtain ⟨g3, h⟩ := h
    obtain ⟨g4, h⟩ := h
    obtain ⟨ht, hf⟩ := h
    refine g_icmp_ne (tgt := 20) C dX7_isSign_13 (by decide) g3 g4 (fun c => ?_) (fun c => ?_)
    · have h := hf c
      refine G.sub [] rfl ?_
      exact w_X7_isSign_J20 C hR  h
    · have h := ht c
      refine g_iconst C dX7_isSign_16 rfl ?_
      refine g_goto (tgt := 21) C dX7_isSign_17 (by decide) ?_
      refine G.sub [] rfl ?_
      exact w_X7_isSign_J21 C hR  h
set_option maxRecDepth 20000 in
theorem t_X7_misplaced {l : Launch} {Y : YT} (hY : YOK Y) {M : Mem} {Q : Int → Mem → Prop} (h : m_X7_misplaced  M Q) : Ctr l Y yX7_misplaced cX7_misplaced 1 (some .boolean) 1 [vR Y 1] M (PQi Y Q) := by
  unfold m_X7_misplaced at h
  refine ctr_ofF hY (by decide +kernel) (Nat.le_of_ble_eq_true rfl) [(0, vR Y 1)] rfl (fun X hX C hR => ?_)
  refine g_aload_n (q := 0) C dX7_misplaced_0 rfl rfl ?_
  refine g_iconst C dX7_misplaced_1 rfl ?_
  obtain ⟨M1, e_M1⟩ : ∃ z : Mem, z = up M 1 6 1 := ⟨_, rfl⟩
  have h := h M1 e_M1
  refine g_putI C fX7_37 pX7_37 dX7_misplaced_2 kd_1 e_M1 ?_
  refine g_aload_n (q := 0) C dX7_misplaced_5 rfl rfl ?_
  refine g_aload_n (q := 0) C dX7_misplaced_6 rfl rfl ?_
  refine g_getI C fX7_52 (by decide) dX7_misplaced_7 kd_1 ?_
  obtain ⟨M2, e_M2⟩ : ∃ z : Mem, z = up M1 1 7 (M1 1 10) := ⟨_, rfl⟩
  have h := h M2 e_M2
  refine g_putI C fX7_15 pX7_15 dX7_misplaced_10 kd_1 e_M2 ?_
  refine g_iconst C dX7_misplaced_13 rfl ?_
  exact g_retz C hR dX7_misplaced_14 (by decide) h
set_option maxRecDepth 20000 in
theorem t_X7_takeSign {l : Launch} {Y : YT} (hY : YOK Y) {a0 : Int} {M : Mem} {Q : Int → Mem → Prop} (h : m_X7_takeSign a0 M Q) : Ctr l Y yX7_takeSign cX7_takeSign 2 (some .boolean) 4 [vR Y 1, vI a0] M (PQi Y Q) := by
  unfold m_X7_takeSign at h
  refine ctr_ofF hY (by decide +kernel) (Nat.le_of_ble_eq_true rfl) [(0, vR Y 1), (1, vI a0)] rfl (fun X hX C hR => ?_)
  refine g_aload_n (q := 0) C dX7_takeSign_0 rfl rfl ?_
  refine g_iload_n (q := 1) C dX7_takeSign_1 rfl rfl ?_
  refine g_cVi (As := [vI a0]) C clX7_73 clvX7_isSign dX7_takeSign_2 kd_1 rfl (Nat.le_of_ble_eq_true rfl) rfl (by decide) (t_X7_isSign (Cx.ok C) h) (fun r2 M1 h => ?_)
  obtain ⟨g3, h⟩ := h
  obtain ⟨ht, hf⟩ := h
  refine g_if_ne (tgt := 13) C dX7_takeSign_5 (by decide) g3 (fun c => ?_) (fun c => ?_)
  · have h := hf c
    refine g_aload_n (q := 0) C dX7_takeSign_13 rfl rfl ?_
    refine g_cVv (As := []) C clX7_46 clvX7_advance dX7_takeSign_14 kd_1 rfl (Nat.le_of_ble_eq_true rfl) rfl (by decide) (t_X7_advance (Cx.ok C) h) (fun M4 h => ?_)
    refine g_iconst C dX7_takeSign_17 rfl ?_
    exact g_retz C hR dX7_takeSign_18 (by decide) h
  · have h := ht c
    refine g_aload_n (q := 0) C dX7_takeSign_8 rfl rfl ?_
    refine g_cVi (As := []) C clX7_77 clvX7_misplaced dX7_takeSign_9 kd_1 rfl (Nat.le_of_ble_eq_true rfl) rfl (by decide) (t_X7_misplaced (Cx.ok C) h) (fun r6 M5 h => ?_)
    obtain ⟨g7, h⟩ := h
    exact g_retz C hR dX7_takeSign_12 g7 h
set_option maxRecDepth 20000 in
theorem t_X2_take {l : Launch} {Y : YT} (hY : YOK Y) {a0 : Int} {M : Mem} {Q : Int → Mem → Prop} (h : m_X2_take a0 M Q) : Ctr l Y yX2_take cX2_take 2 (some .boolean) 4 [vR Y 5, vI a0] M (PQi Y Q) := by
  unfold m_X2_take at h
  refine ctr_ofF hY (by decide +kernel) (Nat.le_of_ble_eq_true rfl) [(0, vR Y 5), (1, vI a0)] rfl (fun X hX C hR => ?_)
  refine g_aload_n (q := 0) C dX2_take_0 rfl rfl ?_
  refine g_getS (v := 1) C fX2_9 dX2_take_1 kd_5 rfl ?_
  refine g_cVv (As := []) C clX2_32 clvX7_advance dX2_take_4 kd_1 rfl (Nat.le_of_ble_eq_true rfl) rfl (by decide) (t_X7_advance (Cx.ok C) h) (fun M1 h => ?_)
  refine g_aload_n (q := 0) C dX2_take_7 rfl rfl ?_
  obtain ⟨g2, h⟩ := h
  refine g_getM C fX2_15 dX2_take_8 kd_5 (kd_in g2 (by decide)).1 ?_
  refine g_iload_n (q := 1) C dX2_take_11 rfl rfl ?_
  refine g_cVi (As := [vI a0]) C clX2_37 clvX1_add dX2_take_12 g2 rfl (Nat.le_of_ble_eq_true rfl) rfl (by decide) (t_X1_add (Cx.ok C) h) (fun r4 M3 h => ?_)
  obtain ⟨g5, h⟩ := h
  exact g_retz C hR dX2_take_15 g5 h
set_option maxRecDepth 20000 in
theorem w_X2_opensBracket_J27 {Y : YT} {X : CX} (C : Cx Y X cX2_opensBracket 2 RX2 5) {Q : Int → Mem → Prop} (hR : Rt Y X (some .boolean) (PQi Y Q)) {s0 : Int}  {M : Mem}  (h : m_X2_opensBracket_J27  Q s0 M) : G Y X 2 27 [] ((vI s0) :: []) M := by
  unfold m_X2_opensBracket_J27 at h
  obtain ⟨g1, h⟩ := h
  exact g_retz C hR dX2_opensBracket_27 g1 h
set_option maxRecDepth 20000 in
theorem t_X2_opensBracket {l : Launch} {Y : YT} (hY : YOK Y) {a0 : Int} {M : Mem} {Q : Int → Mem → Prop} (h : m_X2_opensBracket a0 M Q) : Ctr l Y yX2_opensBracket cX2_opensBracket 2 (some .boolean) 5 [vR Y 5, vI a0] M (PQi Y Q) := by
  unfold m_X2_opensBracket at h
  refine ctr_ofF hY (by decide +kernel) (Nat.le_of_ble_eq_true rfl) [(0, vR Y 5), (1, vI a0)] rfl (fun X hX C hR => ?_)
  refine g_aload_n (q := 0) C dX2_opensBracket_0 rfl rfl ?_
  refine g_getS (v := 1) C fX2_9 dX2_opensBracket_1 kd_5 rfl ?_
  refine g_bipush (v := 40) C dX2_opensBracket_4 (by decide +kernel) ?_
  refine g_cVi (As := [vI 40]) C clX2_46 clvX7_isSign dX2_opensBracket_6 kd_1 rfl (Nat.le_of_ble_eq_true rfl) rfl (by decide) (t_X7_isSign (Cx.ok C) h) (fun r3 M2 h => ?_)
  obtain ⟨g4, h⟩ := h
  obtain ⟨ht, hf⟩ := h
  refine g_if_eq (tgt := 20) C dX2_opensBracket_9 (by decide) g4 (fun c => ?_) (fun c => ?_)
  · have h := ht c
    refine g_aload_n (q := 0) C dX2_opensBracket_20 rfl rfl ?_
    refine g_getS (v := 1) C fX2_9 dX2_opensBracket_21 kd_5 rfl ?_
    refine g_cVi (As := []) C clX2_66 clvX7_misplaced dX2_opensBracket_24 kd_1 rfl (Nat.le_of_ble_eq_true rfl) rfl (by decide) (t_X7_misplaced (Cx.ok C) h) (fun r6 M5 h => ?_)
    refine G.sub [] rfl ?_
    exact w_X2_opensBracket_J27 C hR  h
  · have h := hf c
    refine g_aload_n (q := 0) C dX2_opensBracket_12 rfl rfl ?_
    refine g_iload_n (q := 1) C dX2_opensBracket_13 rfl rfl ?_
    refine g_cVi (As := [vI a0]) C clX2_43 clvX2_opens dX2_opensBracket_14 kd_5 rfl (Nat.le_of_ble_eq_true rfl) rfl (by decide) (t_X2_opens (Cx.ok C) h) (fun r8 M7 h => ?_)
    refine g_goto (tgt := 27) C dX2_opensBracket_17 (by decide) ?_
    refine G.sub [] rfl ?_
    exact w_X2_opensBracket_J27 C hR  h
set_option maxRecDepth 20000 in
theorem w_X2_productCode_J48 {Y : YT} {X : CX} (C : Cx Y X cX2_productCode 1 RX2 2) {Q : Int → Mem → Prop} (hR : Rt Y X (some .int) (PQi Y Q)) {s0 : Int}  {M : Mem}  (h : m_X2_productCode_J48  Q s0 M) : G Y X 1 48 [] ((vI s0) :: []) M := by
  unfold m_X2_productCode_J48 at h
  exact g_reti C hR dX2_productCode_48 h
set_option maxRecDepth 20000 in
theorem t_X2_productCode {l : Launch} {Y : YT} (hY : YOK Y) {M : Mem} {Q : Int → Mem → Prop} (h : m_X2_productCode  M Q) : Ctr l Y yX2_productCode cX2_productCode 1 (some .int) 2 [vR Y 5] M (PQi Y Q) := by
  unfold m_X2_productCode at h
  refine ctr_ofF hY (by decide +kernel) (Nat.le_of_ble_eq_true rfl) [(0, vR Y 5)] rfl (fun X hX C hR => ?_)
  refine g_aload_n (q := 0) C dX2_productCode_0 rfl rfl ?_
  refine g_getS (v := 1) C fX2_9 dX2_productCode_1 kd_5 rfl ?_
  refine g_bipush (v := 42) C dX2_productCode_4 (by decide +kernel) ?_
  refine g_cVi (As := [vI 42]) C clX2_46 clvX7_isSign dX2_productCode_6 kd_1 rfl (Nat.le_of_ble_eq_true rfl) rfl (by decide) (t_X7_isSign (Cx.ok C) h) (fun r2 M1 h => ?_)
  obtain ⟨g3, h⟩ := h
  obtain ⟨ht, hf⟩ := h
  refine g_if_eq (tgt := 15) C dX2_productCode_9 (by decide) g3 (fun c => ?_) (fun c => ?_)
  · have h := ht c
    refine g_aload_n (q := 0) C dX2_productCode_15 rfl rfl ?_
    refine g_getS (v := 1) C fX2_9 dX2_productCode_16 kd_5 rfl ?_
    refine g_bipush (v := 47) C dX2_productCode_19 (by decide +kernel) ?_
    refine g_cVi (As := [vI 47]) C clX2_46 clvX7_isSign dX2_productCode_21 kd_1 rfl (Nat.le_of_ble_eq_true rfl) rfl (by decide) (t_X7_isSign (Cx.ok C) h) (fun r5 M4 h => ?_)
    obtain ⟨g6, h⟩ := h
    obtain ⟨ht, hf⟩ := h
    refine g_if_eq (tgt := 30) C dX2_productCode_24 (by decide) g6 (fun c => ?_) (fun c => ?_)
    · have h := ht c
      refine g_aload_n (q := 0) C dX2_productCode_30 rfl rfl ?_
      refine g_getS (v := 1) C fX2_9 dX2_productCode_31 kd_5 rfl ?_
      refine g_bipush (v := 37) C dX2_productCode_34 (by decide +kernel) ?_
      refine g_cVi (As := [vI 37]) C clX2_46 clvX7_isSign dX2_productCode_36 kd_1 rfl (Nat.le_of_ble_eq_true rfl) rfl (by decide) (t_X7_isSign (Cx.ok C) h) (fun r8 M7 h => ?_)
      obtain ⟨g9, h⟩ := h
      obtain ⟨ht, hf⟩ := h
      refine g_if_eq (tgt := 47) C dX2_productCode_39 (by decide) g9 (fun c => ?_) (fun c => ?_)
      · have h := ht c
        refine g_iconst C dX2_productCode_47 rfl ?_
        refine G.sub [] rfl ?_
        exact w_X2_productCode_J48 C hR  h
      · have h := hf c
        refine g_bipush (v := (-12)) C dX2_productCode_42 (by decide +kernel) ?_
        refine g_goto (tgt := 48) C dX2_productCode_44 (by decide) ?_
        refine G.sub [] rfl ?_
        exact w_X2_productCode_J48 C hR  h
    · have h := hf c
      refine g_bipush (v := (-11)) C dX2_productCode_27 (by decide +kernel) ?_
      exact g_reti C hR dX2_productCode_29 h
  · have h := hf c
    refine g_bipush (v := (-10)) C dX2_productCode_12 (by decide +kernel) ?_
    exact g_reti C hR dX2_productCode_14 h
set_option maxRecDepth 20000 in
theorem w_X2_comparison_J48 {Y : YT} {X : CX} (C : Cx Y X cX2_comparison 1 RX2 2) {Q : Int → Mem → Prop} (hR : Rt Y X (some .int) (PQi Y Q)) {s0 : Int}  {M : Mem}  (h : m_X2_comparison_J48  Q s0 M) : G Y X 1 48 [] ((vI s0) :: []) M := by
  unfold m_X2_comparison_J48 at h
  exact g_reti C hR dX2_comparison_48 h
set_option maxRecDepth 20000 in
theorem t_X2_comparison {l : Launch} {Y : YT} (hY : YOK Y) {M : Mem} {Q : Int → Mem → Prop} (h : m_X2_comparison  M Q) : Ctr l Y yX2_comparison cX2_comparison 1 (some .int) 2 [vR Y 5] M (PQi Y Q) := by
  unfold m_X2_comparison at h
  refine ctr_ofF hY (by decide +kernel) (Nat.le_of_ble_eq_true rfl) [(0, vR Y 5)] rfl (fun X hX C hR => ?_)
  refine g_aload_n (q := 0) C dX2_comparison_0 rfl rfl ?_
  refine g_getS (v := 1) C fX2_9 dX2_comparison_1 kd_5 rfl ?_
  refine g_bipush (v := 60) C dX2_comparison_4 (by decide +kernel) ?_
  refine g_cVi (As := [vI 60]) C clX2_46 clvX7_isSign dX2_comparison_6 kd_1 rfl (Nat.le_of_ble_eq_true rfl) rfl (by decide) (t_X7_isSign (Cx.ok C) h) (fun r2 M1 h => ?_)
  obtain ⟨g3, h⟩ := h
  obtain ⟨ht, hf⟩ := h
  refine g_if_eq (tgt := 15) C dX2_comparison_9 (by decide) g3 (fun c => ?_) (fun c => ?_)
  · have h := ht c
    refine g_aload_n (q := 0) C dX2_comparison_15 rfl rfl ?_
    refine g_getS (v := 1) C fX2_9 dX2_comparison_16 kd_5 rfl ?_
    refine g_bipush (v := 62) C dX2_comparison_19 (by decide +kernel) ?_
    refine g_cVi (As := [vI 62]) C clX2_46 clvX7_isSign dX2_comparison_21 kd_1 rfl (Nat.le_of_ble_eq_true rfl) rfl (by decide) (t_X7_isSign (Cx.ok C) h) (fun r5 M4 h => ?_)
    obtain ⟨g6, h⟩ := h
    obtain ⟨ht, hf⟩ := h
    refine g_if_eq (tgt := 30) C dX2_comparison_24 (by decide) g6 (fun c => ?_) (fun c => ?_)
    · have h := ht c
      refine g_aload_n (q := 0) C dX2_comparison_30 rfl rfl ?_
      refine g_getS (v := 1) C fX2_9 dX2_comparison_31 kd_5 rfl ?_
      refine g_bipush (v := 61) C dX2_comparison_34 (by decide +kernel) ?_
      refine g_cVi (As := [vI 61]) C clX2_46 clvX7_isSign dX2_comparison_36 kd_1 rfl (Nat.le_of_ble_eq_true rfl) rfl (by decide) (t_X7_isSign (Cx.ok C) h) (fun r8 M7 h => ?_)
      obtain ⟨g9, h⟩ := h
      obtain ⟨ht, hf⟩ := h
      refine g_if_eq (tgt := 47) C dX2_comparison_39 (by decide) g9 (fun c => ?_) (fun c => ?_)
      · have h := ht c
        refine g_iconst C dX2_comparison_47 rfl ?_
        refine G.sub [] rfl ?_
        exact w_X2_comparison_J48 C hR  h
      · have h := hf c
        refine g_bipush (v := (-17)) C dX2_comparison_42 (by decide +kernel) ?_
        refine g_goto (tgt := 48) C dX2_comparison_44 (by decide) ?_
        refine G.sub [] rfl ?_
        exact w_X2_comparison_J48 C hR  h
    · have h := hf c
      refine g_bipush (v := (-16)) C dX2_comparison_27 (by decide +kernel) ?_
      exact g_reti C hR dX2_comparison_29 h
  · have h := hf c
    refine g_bipush (v := (-15)) C dX2_comparison_12 (by decide +kernel) ?_
    exact g_reti C hR dX2_comparison_14 h
