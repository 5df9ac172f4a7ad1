theorem dX12_measures_0 : decode cX12_measures 0 = .ok (.iconst 0, 1) := by decide +kernel
theorem dX12_measures_1 : decode cX12_measures 1 = .ok (.istore_n 1, 1) := by decide +kernel
theorem dX12_measures_2 : decode cX12_measures 2 = .ok (.iload_n 1, 1) := by decide +kernel
theorem dX12_measures_3 : decode cX12_measures 3 = .ok (.bipush 7, 2) := by decide +kernel
theorem dX12_measures_5 : decode cX12_measures 5 = .ok (.if_icmp .ge 72, 3) := by decide +kernel
theorem dX12_measures_8 : decode cX12_measures 8 = .ok (.iconst 0, 1) := by decide +kernel
theorem dX12_measures_9 : decode cX12_measures 9 = .ok (.istore_n 2, 1) := by decide +kernel
theorem dX12_measures_10 : decode cX12_measures 10 = .ok (.iload_n 2, 1) := by decide +kernel
theorem dX12_measures_11 : decode cX12_measures 11 = .ok (.bipush 7, 2) := by decide +kernel
theorem dX12_measures_13 : decode cX12_measures 13 = .ok (.if_icmp .ge 58, 3) := by decide +kernel
theorem dX12_measures_16 : decode cX12_measures 16 = .ok (.aload_n 0, 1) := by decide +kernel
theorem dX12_measures_17 : decode cX12_measures 17 = .ok (.getfield 63, 3) := by decide +kernel
theorem dX12_measures_20 : decode cX12_measures 20 = .ok (.aload_n 0, 1) := by decide +kernel
theorem dX12_measures_21 : decode cX12_measures 21 = .ok (.aload_n 0, 1) := by decide +kernel
theorem dX12_measures_22 : decode cX12_measures 22 = .ok (.getfield 115, 3) := by decide +kernel
theorem dX12_measures_25 : decode cX12_measures 25 = .ok (.iload_n 1, 1) := by decide +kernel
theorem dX12_measures_26 : decode cX12_measures 26 = .ok (.iload_n 2, 1) := by decide +kernel
theorem dX12_measures_27 : decode cX12_measures 27 = .ok (.invokevirtual 361, 3) := by decide +kernel
theorem dX12_measures_30 : decode cX12_measures 30 = .ok (.iload_n 1, 1) := by decide +kernel
theorem dX12_measures_31 : decode cX12_measures 31 = .ok (.iload_n 2, 1) := by decide +kernel
theorem dX12_measures_32 : decode cX12_measures 32 = .ok (.if_icmp .ne 7, 3) := by decide +kernel
theorem dX12_measures_35 : decode cX12_measures 35 = .ok (.iconst 0, 1) := by decide +kernel
theorem dX12_measures_36 : decode cX12_measures 36 = .ok (.goto 28, 3) := by decide +kernel
theorem dX12_measures_39 : decode cX12_measures 39 = .ok (.aload_n 0, 1) := by decide +kernel
theorem dX12_measures_40 : decode cX12_measures 40 = .ok (.getfield 60, 3) := by decide +kernel
theorem dX12_measures_43 : decode cX12_measures 43 = .ok (.aload_n 0, 1) := by decide +kernel
theorem dX12_measures_44 : decode cX12_measures 44 = .ok (.aload_n 0, 1) := by decide +kernel
theorem dX12_measures_45 : decode cX12_measures 45 = .ok (.getfield 115, 3) := by decide +kernel
theorem dX12_measures_48 : decode cX12_measures 48 = .ok (.iload_n 1, 1) := by decide +kernel
theorem dX12_measures_49 : decode cX12_measures 49 = .ok (.iload_n 2, 1) := by decide +kernel
theorem dX12_measures_50 : decode cX12_measures 50 = .ok (.invokevirtual 361, 3) := by decide +kernel
theorem dX12_measures_53 : decode cX12_measures 53 = .ok (.iaload, 1) := by decide +kernel
theorem dX12_measures_54 : decode cX12_measures 54 = .ok (.ifCond .le 7, 3) := by decide +kernel
theorem dX12_measures_57 : decode cX12_measures 57 = .ok (.iconst 1, 1) := by decide +kernel
theorem dX12_measures_58 : decode cX12_measures 58 = .ok (.goto 6, 3) := by decide +kernel
theorem dX12_measures_61 : decode cX12_measures 61 = .ok (.ldc_w 395, 3) := by decide +kernel
theorem dX12_measures_64 : decode cX12_measures 64 = .ok (.iastore, 1) := by decide +kernel
theorem dX12_measures_65 : decode cX12_measures 65 = .ok (.iinc 2 1, 3) := by decide +kernel
theorem dX12_measures_68 : decode cX12_measures 68 = .ok (.goto (-58), 3) := by decide +kernel
theorem dX12_measures_71 : decode cX12_measures 71 = .ok (.iinc 1 1, 3) := by decide +kernel
theorem dX12_measures_74 : decode cX12_measures 74 = .ok (.goto (-72), 3) := by decide +kernel
theorem dX12_measures_77 : decode cX12_measures 77 = .ok (.iconst 0, 1) := by decide +kernel
theorem dX12_measures_78 : decode cX12_measures 78 = .ok (.istore_n 1, 1) := by decide +kernel
theorem dX12_measures_79 : decode cX12_measures 79 = .ok (.iload_n 1, 1) := by decide +kernel
theorem dX12_measures_80 : decode cX12_measures 80 = .ok (.bipush 7, 2) := by decide +kernel
theorem dX12_measures_82 : decode cX12_measures 82 = .ok (.if_icmp .ge 107, 3) := by decide +kernel
theorem dX12_measures_85 : decode cX12_measures 85 = .ok (.iconst 0, 1) := by decide +kernel
theorem dX12_measures_86 : decode cX12_measures 86 = .ok (.istore_n 2, 1) := by decide +kernel
theorem dX12_measures_87 : decode cX12_measures 87 = .ok (.iload_n 2, 1) := by decide +kernel
theorem dX12_measures_88 : decode cX12_measures 88 = .ok (.bipush 7, 2) := by decide +kernel
theorem dX12_measures_90 : decode cX12_measures 90 = .ok (.if_icmp .ge 93, 3) := by decide +kernel
theorem dX12_measures_93 : decode cX12_measures 93 = .ok (.iconst 0, 1) := by decide +kernel
theorem dX12_measures_94 : decode cX12_measures 94 = .ok (.istore_n 3, 1) := by decide +kernel
theorem dX12_measures_95 : decode cX12_measures 95 = .ok (.iload_n 3, 1) := by decide +kernel
theorem dX12_measures_96 : decode cX12_measures 96 = .ok (.bipush 7, 2) := by decide +kernel
theorem dX12_measures_98 : decode cX12_measures 98 = .ok (.if_icmp .ge 79, 3) := by decide +kernel
theorem dX12_measures_101 : decode cX12_measures 101 = .ok (.aload_n 0, 1) := by decide +kernel
theorem dX12_measures_102 : decode cX12_measures 102 = .ok (.getfield 63, 3) := by decide +kernel
theorem dX12_measures_105 : decode cX12_measures 105 = .ok (.aload_n 0, 1) := by decide +kernel
theorem dX12_measures_106 : decode cX12_measures 106 = .ok (.aload_n 0, 1) := by decide +kernel
theorem dX12_measures_107 : decode cX12_measures 107 = .ok (.getfield 115, 3) := by decide +kernel
theorem dX12_measures_110 : decode cX12_measures 110 = .ok (.iload_n 2, 1) := by decide +kernel
theorem dX12_measures_111 : decode cX12_measures 111 = .ok (.iload_n 1, 1) := by decide +kernel
theorem dX12_measures_112 : decode cX12_measures 112 = .ok (.invokevirtual 361, 3) := by decide +kernel
theorem dX12_measures_115 : decode cX12_measures 115 = .ok (.iaload, 1) := by decide +kernel
theorem dX12_measures_116 : decode cX12_measures 116 = .ok (.aload_n 0, 1) := by decide +kernel
theorem dX12_measures_117 : decode cX12_measures 117 = .ok (.getfield 63, 3) := by decide +kernel
theorem dX12_measures_120 : decode cX12_measures 120 = .ok (.aload_n 0, 1) := by decide +kernel
theorem dX12_measures_121 : decode cX12_measures 121 = .ok (.aload_n 0, 1) := by decide +kernel
theorem dX12_measures_122 : decode cX12_measures 122 = .ok (.getfield 115, 3) := by decide +kernel
theorem dX12_measures_125 : decode cX12_measures 125 = .ok (.iload_n 1, 1) := by decide +kernel
theorem dX12_measures_126 : decode cX12_measures 126 = .ok (.iload_n 3, 1) := by decide +kernel
theorem dX12_measures_127 : decode cX12_measures 127 = .ok (.invokevirtual 361, 3) := by decide +kernel
theorem dX12_measures_130 : decode cX12_measures 130 = .ok (.iaload, 1) := by decide +kernel
theorem dX12_measures_131 : decode cX12_measures 131 = .ok (.iadd, 1) := by decide +kernel
theorem dX12_measures_132 : decode cX12_measures 132 = .ok (.istore 4, 2) := by decide +kernel
theorem dX12_measures_134 : decode cX12_measures 134 = .ok (.iload 4, 2) := by decide +kernel
theorem dX12_measures_136 : decode cX12_measures 136 = .ok (.aload_n 0, 1) := by decide +kernel
theorem dX12_measures_137 : decode cX12_measures 137 = .ok (.getfield 63, 3) := by decide +kernel
theorem dX12_measures_140 : decode cX12_measures 140 = .ok (.aload_n 0, 1) := by decide +kernel
theorem dX12_measures_141 : decode cX12_measures 141 = .ok (.aload_n 0, 1) := by decide +kernel
theorem dX12_measures_142 : decode cX12_measures 142 = .ok (.getfield 115, 3) := by decide +kernel
theorem dX12_measures_145 : decode cX12_measures 145 = .ok (.iload_n 2, 1) := by decide +kernel
theorem dX12_measures_146 : decode cX12_measures 146 = .ok (.iload_n 3, 1) := by decide +kernel
theorem dX12_measures_147 : decode cX12_measures 147 = .ok (.invokevirtual 361, 3) := by decide +kernel
theorem dX12_measures_150 : decode cX12_measures 150 = .ok (.iaload, 1) := by decide +kernel
theorem dX12_measures_151 : decode cX12_measures 151 = .ok (.if_icmp .ge 20, 3) := by decide +kernel
theorem dX12_measures_154 : decode cX12_measures 154 = .ok (.aload_n 0, 1) := by decide +kernel
theorem dX12_measures_155 : decode cX12_measures 155 = .ok (.getfield 63, 3) := by decide +kernel
theorem dX12_measures_158 : decode cX12_measures 158 = .ok (.aload_n 0, 1) := by decide +kernel
theorem dX12_measures_159 : decode cX12_measures 159 = .ok (.aload_n 0, 1) := by decide +kernel
theorem dX12_measures_160 : decode cX12_measures 160 = .ok (.getfield 115, 3) := by decide +kernel
theorem dX12_measures_163 : decode cX12_measures 163 = .ok (.iload_n 2, 1) := by decide +kernel
theorem dX12_measures_164 : decode cX12_measures 164 = .ok (.iload_n 3, 1) := by decide +kernel
theorem dX12_measures_165 : decode cX12_measures 165 = .ok (.invokevirtual 361, 3) := by decide +kernel
theorem dX12_measures_168 : decode cX12_measures 168 = .ok (.iload 4, 2) := by decide +kernel
theorem dX12_measures_170 : decode cX12_measures 170 = .ok (.iastore, 1) := by decide +kernel
theorem dX12_measures_171 : decode cX12_measures 171 = .ok (.iinc 3 1, 3) := by decide +kernel
theorem dX12_measures_174 : decode cX12_measures 174 = .ok (.goto (-79), 3) := by decide +kernel
theorem dX12_measures_177 : decode cX12_measures 177 = .ok (.iinc 2 1, 3) := by decide +kernel
theorem dX12_measures_180 : decode cX12_measures 180 = .ok (.goto (-93), 3) := by decide +kernel
theorem dX12_measures_183 : decode cX12_measures 183 = .ok (.iinc 1 1, 3) := by decide +kernel
theorem dX12_measures_186 : decode cX12_measures 186 = .ok (.goto (-107), 3) := by decide +kernel
theorem dX12_measures_189 : decode cX12_measures 189 = .ok (.return_, 1) := by decide +kernel
theorem dX12_begin_0 : decode cX12_begin 0 = .ok (.aload_n 0, 1) := by decide +kernel
theorem dX12_begin_1 : decode cX12_begin 1 = .ok (.getfield 156, 3) := by decide +kernel
theorem dX12_begin_4 : decode cX12_begin 4 = .ok (.iconst 0, 1) := by decide +kernel
theorem dX12_begin_5 : decode cX12_begin 5 = .ok (.iconst 0, 1) := by decide +kernel
theorem dX12_begin_6 : decode cX12_begin 6 = .ok (.iastore, 1) := by decide +kernel
theorem dX12_begin_7 : decode cX12_begin 7 = .ok (.aload_n 0, 1) := by decide +kernel
theorem dX12_begin_8 : decode cX12_begin 8 = .ok (.getfield 162, 3) := by decide +kernel
theorem dX12_begin_11 : decode cX12_begin 11 = .ok (.iconst 0, 1) := by decide +kernel
theorem dX12_begin_12 : decode cX12_begin 12 = .ok (.aload_n 0, 1) := by decide +kernel
theorem dX12_begin_13 : decode cX12_begin 13 = .ok (.getfield 75, 3) := by decide +kernel
theorem dX12_begin_16 : decode cX12_begin 16 = .ok (.aload_n 0, 1) := by decide +kernel
theorem dX12_begin_17 : decode cX12_begin 17 = .ok (.getfield 51, 3) := by decide +kernel
theorem dX12_begin_20 : decode cX12_begin 20 = .ok (.iaload, 1) := by decide +kernel
theorem dX12_begin_21 : decode cX12_begin 21 = .ok (.iastore, 1) := by decide +kernel
theorem dX12_begin_22 : decode cX12_begin 22 = .ok (.iconst 0, 1) := by decide +kernel
theorem dX12_begin_23 : decode cX12_begin 23 = .ok (.istore_n 1, 1) := by decide +kernel
theorem dX12_begin_24 : decode cX12_begin 24 = .ok (.iload_n 1, 1) := by decide +kernel
theorem dX12_begin_25 : decode cX12_begin 25 = .ok (.bipush 6, 2) := by decide +kernel
theorem dX12_begin_27 : decode cX12_begin 27 = .ok (.if_icmp .ge 29, 3) := by decide +kernel
theorem dX12_begin_30 : decode cX12_begin 30 = .ok (.aload_n 0, 1) := by decide +kernel
theorem dX12_begin_31 : decode cX12_begin 31 = .ok (.getfield 159, 3) := by decide +kernel
theorem dX12_begin_34 : decode cX12_begin 34 = .ok (.iload_n 1, 1) := by decide +kernel
theorem dX12_begin_35 : decode cX12_begin 35 = .ok (.aload_n 0, 1) := by decide +kernel
theorem dX12_begin_36 : decode cX12_begin 36 = .ok (.getfield 69, 3) := by decide +kernel
theorem dX12_begin_39 : decode cX12_begin 39 = .ok (.bipush 6, 2) := by decide +kernel
theorem dX12_begin_41 : decode cX12_begin 41 = .ok (.aload_n 0, 1) := by decide +kernel
theorem dX12_begin_42 : decode cX12_begin 42 = .ok (.getfield 51, 3) := by decide +kernel
theorem dX12_begin_45 : decode cX12_begin 45 = .ok (.imul, 1) := by decide +kernel
theorem dX12_begin_46 : decode cX12_begin 46 = .ok (.iload_n 1, 1) := by decide +kernel
theorem dX12_begin_47 : decode cX12_begin 47 = .ok (.iadd, 1) := by decide +kernel
theorem dX12_begin_48 : decode cX12_begin 48 = .ok (.iaload, 1) := by decide +kernel
theorem dX12_begin_49 : decode cX12_begin 49 = .ok (.iastore, 1) := by decide +kernel
theorem dX12_begin_50 : decode cX12_begin 50 = .ok (.iinc 1 1, 3) := by decide +kernel
theorem dX12_begin_53 : decode cX12_begin 53 = .ok (.goto (-29), 3) := by decide +kernel
theorem dX12_begin_56 : decode cX12_begin 56 = .ok (.aload_n 0, 1) := by decide +kernel
theorem dX12_begin_57 : decode cX12_begin 57 = .ok (.getfield 165, 3) := by decide +kernel
theorem dX12_begin_60 : decode cX12_begin 60 = .ok (.iconst 0, 1) := by decide +kernel
theorem dX12_begin_61 : decode cX12_begin 61 = .ok (.aload_n 0, 1) := by decide +kernel
theorem dX12_begin_62 : decode cX12_begin 62 = .ok (.getfield 78, 3) := by decide +kernel
theorem dX12_begin_65 : decode cX12_begin 65 = .ok (.aload_n 0, 1) := by decide +kernel
theorem dX12_begin_66 : decode cX12_begin 66 = .ok (.getfield 51, 3) := by decide +kernel
theorem dX12_begin_69 : decode cX12_begin 69 = .ok (.iaload, 1) := by decide +kernel
theorem dX12_begin_70 : decode cX12_begin 70 = .ok (.iastore, 1) := by decide +kernel
theorem dX12_begin_71 : decode cX12_begin 71 = .ok (.iconst 0, 1) := by decide +kernel
theorem dX12_begin_72 : decode cX12_begin 72 = .ok (.istore_n 1, 1) := by decide +kernel
theorem dX12_begin_73 : decode cX12_begin 73 = .ok (.iload_n 1, 1) := by decide +kernel
theorem dX12_begin_74 : decode cX12_begin 74 = .ok (.bipush 8, 2) := by decide +kernel
theorem dX12_begin_76 : decode cX12_begin 76 = .ok (.if_icmp .ge 79, 3) := by decide +kernel
theorem dX12_begin_79 : decode cX12_begin 79 = .ok (.aload_n 0, 1) := by decide +kernel
theorem dX12_begin_80 : decode cX12_begin 80 = .ok (.getfield 168, 3) := by decide +kernel
theorem dX12_begin_83 : decode cX12_begin 83 = .ok (.iconst 3, 1) := by decide +kernel
theorem dX12_begin_84 : decode cX12_begin 84 = .ok (.iload_n 1, 1) := by decide +kernel
theorem dX12_begin_85 : decode cX12_begin 85 = .ok (.imul, 1) := by decide +kernel
theorem dX12_begin_86 : decode cX12_begin 86 = .ok (.aload_n 0, 1) := by decide +kernel
theorem dX12_begin_87 : decode cX12_begin 87 = .ok (.getfield 81, 3) := by decide +kernel
theorem dX12_begin_90 : decode cX12_begin 90 = .ok (.bipush 8, 2) := by decide +kernel
theorem dX12_begin_92 : decode cX12_begin 92 = .ok (.aload_n 0, 1) := by decide +kernel
theorem dX12_begin_93 : decode cX12_begin 93 = .ok (.getfield 51, 3) := by decide +kernel
theorem dX12_begin_96 : decode cX12_begin 96 = .ok (.imul, 1) := by decide +kernel
theorem dX12_begin_97 : decode cX12_begin 97 = .ok (.iload_n 1, 1) := by decide +kernel
theorem dX12_begin_98 : decode cX12_begin 98 = .ok (.iadd, 1) := by decide +kernel
theorem dX12_begin_99 : decode cX12_begin 99 = .ok (.iaload, 1) := by decide +kernel
theorem dX12_begin_100 : decode cX12_begin 100 = .ok (.iastore, 1) := by decide +kernel
theorem dX12_begin_101 : decode cX12_begin 101 = .ok (.aload_n 0, 1) := by decide +kernel
theorem dX12_begin_102 : decode cX12_begin 102 = .ok (.getfield 168, 3) := by decide +kernel
theorem dX12_begin_105 : decode cX12_begin 105 = .ok (.iconst 3, 1) := by decide +kernel
theorem dX12_begin_106 : decode cX12_begin 106 = .ok (.iload_n 1, 1) := by decide +kernel
theorem dX12_begin_107 : decode cX12_begin 107 = .ok (.imul, 1) := by decide +kernel
theorem dX12_begin_108 : decode cX12_begin 108 = .ok (.iconst 1, 1) := by decide +kernel
theorem dX12_begin_109 : decode cX12_begin 109 = .ok (.iadd, 1) := by decide +kernel
theorem dX12_begin_110 : decode cX12_begin 110 = .ok (.aload_n 0, 1) := by decide +kernel
theorem dX12_begin_111 : decode cX12_begin 111 = .ok (.getfield 84, 3) := by decide +kernel
theorem dX12_begin_114 : decode cX12_begin 114 = .ok (.bipush 8, 2) := by decide +kernel
theorem dX12_begin_116 : decode cX12_begin 116 = .ok (.aload_n 0, 1) := by decide +kernel
theorem dX12_begin_117 : decode cX12_begin 117 = .ok (.getfield 51, 3) := by decide +kernel
theorem dX12_begin_120 : decode cX12_begin 120 = .ok (.imul, 1) := by decide +kernel
theorem dX12_begin_121 : decode cX12_begin 121 = .ok (.iload_n 1, 1) := by decide +kernel
theorem dX12_begin_122 : decode cX12_begin 122 = .ok (.iadd, 1) := by decide +kernel
theorem dX12_begin_123 : decode cX12_begin 123 = .ok (.iaload, 1) := by decide +kernel
theorem dX12_begin_124 : decode cX12_begin 124 = .ok (.iastore, 1) := by decide +kernel
theorem dX12_begin_125 : decode cX12_begin 125 = .ok (.aload_n 0, 1) := by decide +kernel
theorem dX12_begin_126 : decode cX12_begin 126 = .ok (.getfield 168, 3) := by decide +kernel
theorem dX12_begin_129 : decode cX12_begin 129 = .ok (.iconst 3, 1) := by decide +kernel
theorem dX12_begin_130 : decode cX12_begin 130 = .ok (.iload_n 1, 1) := by decide +kernel
theorem dX12_begin_131 : decode cX12_begin 131 = .ok (.imul, 1) := by decide +kernel
theorem dX12_begin_132 : decode cX12_begin 132 = .ok (.iconst 2, 1) := by decide +kernel
theorem dX12_begin_133 : decode cX12_begin 133 = .ok (.iadd, 1) := by decide +kernel
theorem dX12_begin_134 : decode cX12_begin 134 = .ok (.aload_n 0, 1) := by decide +kernel
theorem dX12_begin_135 : decode cX12_begin 135 = .ok (.getfield 87, 3) := by decide +kernel
theorem dX12_begin_138 : decode cX12_begin 138 = .ok (.bipush 8, 2) := by decide +kernel
theorem dX12_begin_140 : decode cX12_begin 140 = .ok (.aload_n 0, 1) := by decide +kernel
theorem dX12_begin_141 : decode cX12_begin 141 = .ok (.getfield 51, 3) := by decide +kernel
theorem dX12_begin_144 : decode cX12_begin 144 = .ok (.imul, 1) := by decide +kernel
theorem dX12_begin_145 : decode cX12_begin 145 = .ok (.iload_n 1, 1) := by decide +kernel
theorem dX12_begin_146 : decode cX12_begin 146 = .ok (.iadd, 1) := by decide +kernel
theorem dX12_begin_147 : decode cX12_begin 147 = .ok (.iaload, 1) := by decide +kernel
theorem dX12_begin_148 : decode cX12_begin 148 = .ok (.iastore, 1) := by decide +kernel
theorem dX12_begin_149 : decode cX12_begin 149 = .ok (.iinc 1 1, 3) := by decide +kernel
theorem dX12_begin_152 : decode cX12_begin 152 = .ok (.goto (-79), 3) := by decide +kernel
theorem dX12_begin_155 : decode cX12_begin 155 = .ok (.aload_n 0, 1) := by decide +kernel
theorem dX12_begin_156 : decode cX12_begin 156 = .ok (.getfield 171, 3) := by decide +kernel
theorem dX12_begin_159 : decode cX12_begin 159 = .ok (.iconst 0, 1) := by decide +kernel
theorem dX12_begin_160 : decode cX12_begin 160 = .ok (.iconst 0, 1) := by decide +kernel
theorem dX12_begin_161 : decode cX12_begin 161 = .ok (.iastore, 1) := by decide +kernel
theorem dX12_begin_162 : decode cX12_begin 162 = .ok (.aload_n 0, 1) := by decide +kernel
theorem dX12_begin_163 : decode cX12_begin 163 = .ok (.iconst 0, 1) := by decide +kernel
theorem dX12_begin_164 : decode cX12_begin 164 = .ok (.putfield 180, 3) := by decide +kernel
theorem dX12_begin_167 : decode cX12_begin 167 = .ok (.aload_n 0, 1) := by decide +kernel
theorem dX12_begin_168 : decode cX12_begin 168 = .ok (.iconst 0, 1) := by decide +kernel
theorem dX12_begin_169 : decode cX12_begin 169 = .ok (.putfield 195, 3) := by decide +kernel
theorem dX12_begin_172 : decode cX12_begin 172 = .ok (.return_, 1) := by decide +kernel
theorem dX12_town_0 : decode cX12_town 0 = .ok (.aload_n 0, 1) := by decide +kernel
theorem dX12_town_1 : decode cX12_town 1 = .ok (.aload_n 0, 1) := by decide +kernel
theorem dX12_town_2 : decode cX12_town 2 = .ok (.getfield 13, 3) := by decide +kernel
theorem dX12_town_5 : decode cX12_town 5 = .ok (.putfield 17, 3) := by decide +kernel
theorem dX12_town_8 : decode cX12_town 8 = .ok (.aload_n 0, 1) := by decide +kernel
theorem dX12_town_9 : decode cX12_town 9 = .ok (.iconst 0, 1) := by decide +kernel
theorem dX12_town_10 : decode cX12_town 10 = .ok (.putfield 13, 3) := by decide +kernel
theorem dX12_town_13 : decode cX12_town 13 = .ok (.aload_n 0, 1) := by decide +kernel
theorem dX12_town_14 : decode cX12_town 14 = .ok (.iconst 0, 1) := by decide +kernel
theorem dX12_town_15 : decode cX12_town 15 = .ok (.putfield 26, 3) := by decide +kernel
theorem dX12_town_18 : decode cX12_town 18 = .ok (.aload_n 0, 1) := by decide +kernel
theorem dX12_town_19 : decode cX12_town 19 = .ok (.iconst 0, 1) := by decide +kernel
theorem dX12_town_20 : decode cX12_town 20 = .ok (.putfield 36, 3) := by decide +kernel
theorem dX12_town_23 : decode cX12_town 23 = .ok (.aload_n 0, 1) := by decide +kernel
theorem dX12_town_24 : decode cX12_town 24 = .ok (.iconst (-1), 1) := by decide +kernel
theorem dX12_town_25 : decode cX12_town 25 = .ok (.putfield 39, 3) := by decide +kernel
theorem dX12_town_28 : decode cX12_town 28 = .ok (.aload_n 0, 1) := by decide +kernel
theorem dX12_town_29 : decode cX12_town 29 = .ok (.iconst 1, 1) := by decide +kernel
theorem dX12_town_30 : decode cX12_town 30 = .ok (.aload_n 0, 1) := by decide +kernel
theorem dX12_town_31 : decode cX12_town 31 = .ok (.getfield 51, 3) := by decide +kernel
theorem dX12_town_34 : decode cX12_town 34 = .ok (.isub, 1) := by decide +kernel
theorem dX12_town_35 : decode cX12_town 35 = .ok (.putfield 115, 3) := by decide +kernel
theorem dX12_town_38 : decode cX12_town 38 = .ok (.aload_n 0, 1) := by decide +kernel
theorem dX12_town_39 : decode cX12_town 39 = .ok (.getfield 54, 3) := by decide +kernel
theorem dX12_town_42 : decode cX12_town 42 = .ok (.aload_n 0, 1) := by decide +kernel
theorem dX12_town_43 : decode cX12_town 43 = .ok (.getfield 115, 3) := by decide +kernel
theorem dX12_town_46 : decode cX12_town 46 = .ok (.iconst 0, 1) := by decide +kernel
theorem dX12_town_47 : decode cX12_town 47 = .ok (.iastore, 1) := by decide +kernel
theorem dX12_town_48 : decode cX12_town 48 = .ok (.aload_n 0, 1) := by decide +kernel
theorem dX12_town_49 : decode cX12_town 49 = .ok (.getfield 57, 3) := by decide +kernel
theorem dX12_town_52 : decode cX12_town 52 = .ok (.aload_n 0, 1) := by decide +kernel
theorem dX12_town_53 : decode cX12_town 53 = .ok (.getfield 115, 3) := by decide +kernel
theorem dX12_town_56 : decode cX12_town 56 = .ok (.iconst 0, 1) := by decide +kernel
theorem dX12_town_57 : decode cX12_town 57 = .ok (.iastore, 1) := by decide +kernel
theorem dX12_town_58 : decode cX12_town 58 = .ok (.aload_n 0, 1) := by decide +kernel
theorem dX12_town_59 : decode cX12_town 59 = .ok (.getfield 66, 3) := by decide +kernel
theorem dX12_town_62 : decode cX12_town 62 = .ok (.aload_n 0, 1) := by decide +kernel
theorem dX12_town_63 : decode cX12_town 63 = .ok (.getfield 115, 3) := by decide +kernel
theorem dX12_town_66 : decode cX12_town 66 = .ok (.iconst 0, 1) := by decide +kernel
theorem dX12_town_67 : decode cX12_town 67 = .ok (.iastore, 1) := by decide +kernel
theorem dX12_town_68 : decode cX12_town 68 = .ok (.aload_n 0, 1) := by decide +kernel
theorem dX12_town_69 : decode cX12_town 69 = .ok (.getfield 75, 3) := by decide +kernel
theorem dX12_town_72 : decode cX12_town 72 = .ok (.aload_n 0, 1) := by decide +kernel
theorem dX12_town_73 : decode cX12_town 73 = .ok (.getfield 115, 3) := by decide +kernel
theorem dX12_town_76 : decode cX12_town 76 = .ok (.iconst 0, 1) := by decide +kernel
theorem dX12_town_77 : decode cX12_town 77 = .ok (.iastore, 1) := by decide +kernel
theorem dX12_town_78 : decode cX12_town 78 = .ok (.aload_n 0, 1) := by decide +kernel
theorem dX12_town_79 : decode cX12_town 79 = .ok (.getfield 78, 3) := by decide +kernel
theorem dX12_town_82 : decode cX12_town 82 = .ok (.aload_n 0, 1) := by decide +kernel
theorem dX12_town_83 : decode cX12_town 83 = .ok (.getfield 115, 3) := by decide +kernel
theorem dX12_town_86 : decode cX12_town 86 = .ok (.iconst 0, 1) := by decide +kernel
theorem dX12_town_87 : decode cX12_town 87 = .ok (.iastore, 1) := by decide +kernel
theorem dX12_town_88 : decode cX12_town 88 = .ok (.aload_n 0, 1) := by decide +kernel
theorem dX12_town_89 : decode cX12_town 89 = .ok (.getfield 90, 3) := by decide +kernel
theorem dX12_town_92 : decode cX12_town 92 = .ok (.aload_n 0, 1) := by decide +kernel
theorem dX12_town_93 : decode cX12_town 93 = .ok (.getfield 115, 3) := by decide +kernel
theorem dX12_town_96 : decode cX12_town 96 = .ok (.iconst 0, 1) := by decide +kernel
theorem dX12_town_97 : decode cX12_town 97 = .ok (.iastore, 1) := by decide +kernel
theorem dX12_town_98 : decode cX12_town 98 = .ok (.aload_n 0, 1) := by decide +kernel
theorem dX12_town_99 : decode cX12_town 99 = .ok (.getfield 93, 3) := by decide +kernel
theorem dX12_town_102 : decode cX12_town 102 = .ok (.iconst 2, 1) := by decide +kernel
theorem dX12_town_103 : decode cX12_town 103 = .ok (.aload_n 0, 1) := by decide +kernel
theorem dX12_town_104 : decode cX12_town 104 = .ok (.getfield 115, 3) := by decide +kernel
theorem dX12_town_107 : decode cX12_town 107 = .ok (.imul, 1) := by decide +kernel
theorem dX12_town_108 : decode cX12_town 108 = .ok (.iconst (-1), 1) := by decide +kernel
theorem dX12_town_109 : decode cX12_town 109 = .ok (.iastore, 1) := by decide +kernel
theorem dX12_town_110 : decode cX12_town 110 = .ok (.aload_n 0, 1) := by decide +kernel
theorem dX12_town_111 : decode cX12_town 111 = .ok (.getfield 93, 3) := by decide +kernel
theorem dX12_town_114 : decode cX12_town 114 = .ok (.iconst 2, 1) := by decide +kernel
theorem dX12_town_115 : decode cX12_town 115 = .ok (.aload_n 0, 1) := by decide +kernel
theorem dX12_town_116 : decode cX12_town 116 = .ok (.getfield 115, 3) := by decide +kernel
theorem dX12_town_119 : decode cX12_town 119 = .ok (.imul, 1) := by decide +kernel
theorem dX12_town_120 : decode cX12_town 120 = .ok (.iconst 1, 1) := by decide +kernel
theorem dX12_town_121 : decode cX12_town 121 = .ok (.iadd, 1) := by decide +kernel
theorem dX12_town_122 : decode cX12_town 122 = .ok (.iconst (-1), 1) := by decide +kernel
theorem dX12_town_123 : decode cX12_town 123 = .ok (.iastore, 1) := by decide +kernel
theorem dX12_town_124 : decode cX12_town 124 = .ok (.iconst 0, 1) := by decide +kernel
theorem dX12_town_125 : decode cX12_town 125 = .ok (.istore_n 1, 1) := by decide +kernel
theorem dX12_town_126 : decode cX12_town 126 = .ok (.iload_n 1, 1) := by decide +kernel
theorem dX12_town_127 : decode cX12_town 127 = .ok (.bipush 7, 2) := by decide +kernel
theorem dX12_town_129 : decode cX12_town 129 = .ok (.if_icmp .ge 39, 3) := by decide +kernel
theorem dX12_town_132 : decode cX12_town 132 = .ok (.iconst 0, 1) := by decide +kernel
theorem dX12_town_133 : decode cX12_town 133 = .ok (.istore_n 2, 1) := by decide +kernel
theorem dX12_town_134 : decode cX12_town 134 = .ok (.iload_n 2, 1) := by decide +kernel
theorem dX12_town_135 : decode cX12_town 135 = .ok (.bipush 7, 2) := by decide +kernel
theorem dX12_town_137 : decode cX12_town 137 = .ok (.if_icmp .ge 25, 3) := by decide +kernel
theorem dX12_town_140 : decode cX12_town 140 = .ok (.aload_n 0, 1) := by decide +kernel
theorem dX12_town_141 : decode cX12_town 141 = .ok (.getfield 60, 3) := by decide +kernel
theorem dX12_town_144 : decode cX12_town 144 = .ok (.aload_n 0, 1) := by decide +kernel
theorem dX12_town_145 : decode cX12_town 145 = .ok (.aload_n 0, 1) := by decide +kernel
theorem dX12_town_146 : decode cX12_town 146 = .ok (.getfield 115, 3) := by decide +kernel
theorem dX12_town_149 : decode cX12_town 149 = .ok (.iload_n 1, 1) := by decide +kernel
theorem dX12_town_150 : decode cX12_town 150 = .ok (.iload_n 2, 1) := by decide +kernel
theorem dX12_town_151 : decode cX12_town 151 = .ok (.invokevirtual 361, 3) := by decide +kernel
theorem dX12_town_154 : decode cX12_town 154 = .ok (.iconst 0, 1) := by decide +kernel
theorem dX12_town_155 : decode cX12_town 155 = .ok (.iastore, 1) := by decide +kernel
theorem dX12_town_156 : decode cX12_town 156 = .ok (.iinc 2 1, 3) := by decide +kernel
theorem dX12_town_159 : decode cX12_town 159 = .ok (.goto (-25), 3) := by decide +kernel
theorem dX12_town_162 : decode cX12_town 162 = .ok (.iinc 1 1, 3) := by decide +kernel
theorem dX12_town_165 : decode cX12_town 165 = .ok (.goto (-39), 3) := by decide +kernel
theorem dX12_town_168 : decode cX12_town 168 = .ok (.aload_n 0, 1) := by decide +kernel
theorem dX12_town_169 : decode cX12_town 169 = .ok (.iconst 0, 1) := by decide +kernel
theorem dX12_town_170 : decode cX12_town 170 = .ok (.putfield 112, 3) := by decide +kernel
theorem dX12_town_173 : decode cX12_town 173 = .ok (.iconst 0, 1) := by decide +kernel
theorem dX12_town_174 : decode cX12_town 174 = .ok (.istore_n 1, 1) := by decide +kernel
theorem dX12_town_175 : decode cX12_town 175 = .ok (.aload_n 0, 1) := by decide +kernel
theorem dX12_town_176 : decode cX12_town 176 = .ok (.invokevirtual 241, 3) := by decide +kernel
theorem dX12_town_179 : decode cX12_town 179 = .ok (.aload_n 0, 1) := by decide +kernel
theorem dX12_town_180 : decode cX12_town 180 = .ok (.getfield 36, 3) := by decide +kernel
theorem dX12_town_183 : decode cX12_town 183 = .ok (.ifCond .ne 25, 3) := by decide +kernel
theorem dX12_town_186 : decode cX12_town 186 = .ok (.aload_n 0, 1) := by decide +kernel
theorem dX12_town_187 : decode cX12_town 187 = .ok (.getfield 20, 3) := by decide +kernel
theorem dX12_town_190 : decode cX12_town 190 = .ok (.ifCond .eq 18, 3) := by decide +kernel
theorem dX12_town_193 : decode cX12_town 193 = .ok (.aload_n 0, 1) := by decide +kernel
theorem dX12_town_194 : decode cX12_town 194 = .ok (.invokevirtual 396, 3) := by decide +kernel
theorem dX12_town_197 : decode cX12_town 197 = .ok (.iinc 1 1, 3) := by decide +kernel
theorem dX12_town_200 : decode cX12_town 200 = .ok (.aload_n 0, 1) := by decide +kernel
theorem dX12_town_201 : decode cX12_town 201 = .ok (.iload_n 1, 1) := by decide +kernel
theorem dX12_town_202 : decode cX12_town 202 = .ok (.invokevirtual 399, 3) := by decide +kernel
theorem dX12_town_205 : decode cX12_town 205 = .ok (.goto (-26), 3) := by decide +kernel
theorem dX12_town_208 : decode cX12_town 208 = .ok (.aload_n 0, 1) := by decide +kernel
theorem dX12_town_209 : decode cX12_town 209 = .ok (.aload_n 0, 1) := by decide +kernel
theorem dX12_town_210 : decode cX12_town 210 = .ok (.getfield 36, 3) := by decide +kernel
theorem dX12_town_213 : decode cX12_town 213 = .ok (.putfield 42, 3) := by decide +kernel
theorem dX12_town_216 : decode cX12_town 216 = .ok (.aload_n 0, 1) := by decide +kernel
theorem dX12_town_217 : decode cX12_town 217 = .ok (.aload_n 0, 1) := by decide +kernel
theorem dX12_town_218 : decode cX12_town 218 = .ok (.getfield 39, 3) := by decide +kernel
theorem dX12_town_221 : decode cX12_town 221 = .ok (.putfield 45, 3) := by decide +kernel
theorem dX12_town_224 : decode cX12_town 224 = .ok (.aload_n 0, 1) := by decide +kernel
theorem dX12_town_225 : decode cX12_town 225 = .ok (.getfield 36, 3) := by decide +kernel
theorem dX12_town_228 : decode cX12_town 228 = .ok (.ifCond .le 9, 3) := by decide +kernel
theorem dX12_town_231 : decode cX12_town 231 = .ok (.aload_n 0, 1) := by decide +kernel
theorem dX12_town_232 : decode cX12_town 232 = .ok (.iconst 1, 1) := by decide +kernel
theorem dX12_town_233 : decode cX12_town 233 = .ok (.invokevirtual 216, 3) := by decide +kernel
theorem dX12_town_236 : decode cX12_town 236 = .ok (.ireturn, 1) := by decide +kernel
theorem dX12_town_237 : decode cX12_town 237 = .ok (.aload_n 0, 1) := by decide +kernel
theorem dX12_town_238 : decode cX12_town 238 = .ok (.invokevirtual 402, 3) := by decide +kernel
theorem dX12_town_241 : decode cX12_town 241 = .ok (.aload_n 0, 1) := by decide +kernel
theorem dX12_town_242 : decode cX12_town 242 = .ok (.aload_n 0, 1) := by decide +kernel
theorem dX12_town_243 : decode cX12_town 243 = .ok (.getfield 115, 3) := by decide +kernel
theorem dX12_town_246 : decode cX12_town 246 = .ok (.putfield 51, 3) := by decide +kernel
theorem dX12_town_249 : decode cX12_town 249 = .ok (.aload_n 0, 1) := by decide +kernel
theorem dX12_town_250 : decode cX12_town 250 = .ok (.invokevirtual 405, 3) := by decide +kernel
theorem dX12_town_253 : decode cX12_town 253 = .ok (.iload_n 1, 1) := by decide +kernel
theorem dX12_town_254 : decode cX12_town 254 = .ok (.ireturn, 1) := by decide +kernel
theorem dX12_fault_0 : decode cX12_fault 0 = .ok (.iload_n 1, 1) := by decide +kernel
theorem dX12_fault_1 : decode cX12_fault 1 = .ok (.ifCond .ne 10, 3) := by decide +kernel
theorem dX12_fault_4 : decode cX12_fault 4 = .ok (.aload_n 0, 1) := by decide +kernel
theorem dX12_fault_5 : decode cX12_fault 5 = .ok (.getfield 42, 3) := by decide +kernel
theorem dX12_fault_8 : decode cX12_fault 8 = .ok (.goto 16, 3) := by decide +kernel
theorem dX12_fault_11 : decode cX12_fault 11 = .ok (.iload_n 1, 1) := by decide +kernel
theorem dX12_fault_12 : decode cX12_fault 12 = .ok (.iconst 1, 1) := by decide +kernel
theorem dX12_fault_13 : decode cX12_fault 13 = .ok (.if_icmp .ne 10, 3) := by decide +kernel
theorem dX12_fault_16 : decode cX12_fault 16 = .ok (.aload_n 0, 1) := by decide +kernel
theorem dX12_fault_17 : decode cX12_fault 17 = .ok (.getfield 45, 3) := by decide +kernel
theorem dX12_fault_20 : decode cX12_fault 20 = .ok (.goto 4, 3) := by decide +kernel
theorem dX12_fault_23 : decode cX12_fault 23 = .ok (.iconst (-1), 1) := by decide +kernel
theorem dX12_fault_24 : decode cX12_fault 24 = .ok (.ireturn, 1) := by decide +kernel
theorem dX12_status_0 : decode cX12_status 0 = .ok (.iload_n 1, 1) := by decide +kernel
theorem dX12_status_1 : decode cX12_status 1 = .ok (.iconst 0, 1) := by decide +kernel
theorem dX12_status_2 : decode cX12_status 2 = .ok (.iconst 5, 1) := by decide +kernel
theorem dX12_status_3 : decode cX12_status 3 = .ok (.invokestatic 300, 3) := by decide +kernel
theorem dX12_status_6 : decode cX12_status 6 = .ok (.ifCond .eq 12, 3) := by decide +kernel
theorem dX12_status_9 : decode cX12_status 9 = .ok (.aload_n 0, 1) := by decide +kernel
theorem dX12_status_10 : decode cX12_status 10 = .ok (.getfield 153, 3) := by decide +kernel
theorem dX12_status_13 : decode cX12_status 13 = .ok (.iload_n 1, 1) := by decide +kernel
theorem dX12_status_14 : decode cX12_status 14 = .ok (.iaload, 1) := by decide +kernel
theorem dX12_status_15 : decode cX12_status 15 = .ok (.goto 4, 3) := by decide +kernel
theorem dX12_status_18 : decode cX12_status 18 = .ok (.iconst (-1), 1) := by decide +kernel
theorem dX12_status_19 : decode cX12_status 19 = .ok (.ireturn, 1) := by decide +kernel
theorem dX12_copies_0 : decode cX12_copies 0 = .ok (.aload_n 0, 1) := by decide +kernel
theorem dX12_copies_1 : decode cX12_copies 1 = .ok (.getfield 156, 3) := by decide +kernel
theorem dX12_copies_4 : decode cX12_copies 4 = .ok (.iload_n 1, 1) := by decide +kernel
theorem dX12_copies_5 : decode cX12_copies 5 = .ok (.aload_n 0, 1) := by decide +kernel
theorem dX12_copies_6 : decode cX12_copies 6 = .ok (.getfield 156, 3) := by decide +kernel
theorem dX12_copies_9 : decode cX12_copies 9 = .ok (.iload_n 2, 1) := by decide +kernel
theorem dX12_copies_10 : decode cX12_copies 10 = .ok (.iaload, 1) := by decide +kernel
theorem dX12_copies_11 : decode cX12_copies 11 = .ok (.iastore, 1) := by decide +kernel
theorem dX12_copies_12 : decode cX12_copies 12 = .ok (.aload_n 0, 1) := by decide +kernel
theorem dX12_copies_13 : decode cX12_copies 13 = .ok (.getfield 162, 3) := by decide +kernel
theorem dX12_copies_16 : decode cX12_copies 16 = .ok (.iload_n 1, 1) := by decide +kernel
theorem dX12_copies_17 : decode cX12_copies 17 = .ok (.aload_n 0, 1) := by decide +kernel
theorem dX12_copies_18 : decode cX12_copies 18 = .ok (.getfield 162, 3) := by decide +kernel
theorem dX12_copies_21 : decode cX12_copies 21 = .ok (.iload_n 2, 1) := by decide +kernel
theorem dX12_copies_22 : decode cX12_copies 22 = .ok (.iaload, 1) := by decide +kernel
theorem dX12_copies_23 : decode cX12_copies 23 = .ok (.iastore, 1) := by decide +kernel
theorem dX12_copies_24 : decode cX12_copies 24 = .ok (.iconst 0, 1) := by decide +kernel
theorem dX12_copies_25 : decode cX12_copies 25 = .ok (.istore_n 3, 1) := by decide +kernel
theorem dX12_copies_26 : decode cX12_copies 26 = .ok (.iload_n 3, 1) := by decide +kernel
theorem dX12_copies_27 : decode cX12_copies 27 = .ok (.bipush 6, 2) := by decide +kernel
theorem dX12_copies_29 : decode cX12_copies 29 = .ok (.if_icmp .ge 31, 3) := by decide +kernel
theorem dX12_copies_32 : decode cX12_copies 32 = .ok (.aload_n 0, 1) := by decide +kernel
theorem dX12_copies_33 : decode cX12_copies 33 = .ok (.getfield 159, 3) := by decide +kernel
theorem dX12_copies_36 : decode cX12_copies 36 = .ok (.bipush 6, 2) := by decide +kernel
theorem dX12_copies_38 : decode cX12_copies 38 = .ok (.iload_n 1, 1) := by decide +kernel
theorem dX12_copies_39 : decode cX12_copies 39 = .ok (.imul, 1) := by decide +kernel
theorem dX12_copies_40 : decode cX12_copies 40 = .ok (.iload_n 3, 1) := by decide +kernel
theorem dX12_copies_41 : decode cX12_copies 41 = .ok (.iadd, 1) := by decide +kernel
theorem dX12_copies_42 : decode cX12_copies 42 = .ok (.aload_n 0, 1) := by decide +kernel
theorem dX12_copies_43 : decode cX12_copies 43 = .ok (.getfield 159, 3) := by decide +kernel
theorem dX12_copies_46 : decode cX12_copies 46 = .ok (.bipush 6, 2) := by decide +kernel
theorem dX12_copies_48 : decode cX12_copies 48 = .ok (.iload_n 2, 1) := by decide +kernel
theorem dX12_copies_49 : decode cX12_copies 49 = .ok (.imul, 1) := by decide +kernel
theorem dX12_copies_50 : decode cX12_copies 50 = .ok (.iload_n 3, 1) := by decide +kernel
theorem dX12_copies_51 : decode cX12_copies 51 = .ok (.iadd, 1) := by decide +kernel
theorem dX12_copies_52 : decode cX12_copies 52 = .ok (.iaload, 1) := by decide +kernel
theorem dX12_copies_53 : decode cX12_copies 53 = .ok (.iastore, 1) := by decide +kernel
theorem dX12_copies_54 : decode cX12_copies 54 = .ok (.iinc 3 1, 3) := by decide +kernel
theorem dX12_copies_57 : decode cX12_copies 57 = .ok (.goto (-31), 3) := by decide +kernel
theorem dX12_copies_60 : decode cX12_copies 60 = .ok (.aload_n 0, 1) := by decide +kernel
theorem dX12_copies_61 : decode cX12_copies 61 = .ok (.getfield 165, 3) := by decide +kernel
theorem dX12_copies_64 : decode cX12_copies 64 = .ok (.iload_n 1, 1) := by decide +kernel
theorem dX12_copies_65 : decode cX12_copies 65 = .ok (.aload_n 0, 1) := by decide +kernel
theorem dX12_copies_66 : decode cX12_copies 66 = .ok (.getfield 165, 3) := by decide +kernel
theorem dX12_copies_69 : decode cX12_copies 69 = .ok (.iload_n 2, 1) := by decide +kernel
theorem dX12_copies_70 : decode cX12_copies 70 = .ok (.iaload, 1) := by decide +kernel
theorem dX12_copies_71 : decode cX12_copies 71 = .ok (.iastore, 1) := by decide +kernel
theorem dX12_copies_72 : decode cX12_copies 72 = .ok (.iconst 0, 1) := by decide +kernel
theorem dX12_copies_73 : decode cX12_copies 73 = .ok (.istore_n 3, 1) := by decide +kernel
theorem dX12_copies_74 : decode cX12_copies 74 = .ok (.iload_n 3, 1) := by decide +kernel
theorem dX12_copies_75 : decode cX12_copies 75 = .ok (.bipush 27, 2) := by decide +kernel
theorem dX12_copies_77 : decode cX12_copies 77 = .ok (.if_icmp .ge 31, 3) := by decide +kernel
theorem dX12_copies_80 : decode cX12_copies 80 = .ok (.aload_n 0, 1) := by decide +kernel
theorem dX12_copies_81 : decode cX12_copies 81 = .ok (.getfield 168, 3) := by decide +kernel
theorem dX12_copies_84 : decode cX12_copies 84 = .ok (.bipush 27, 2) := by decide +kernel
theorem dX12_copies_86 : decode cX12_copies 86 = .ok (.iload_n 1, 1) := by decide +kernel
theorem dX12_copies_87 : decode cX12_copies 87 = .ok (.imul, 1) := by decide +kernel
theorem dX12_copies_88 : decode cX12_copies 88 = .ok (.iload_n 3, 1) := by decide +kernel
theorem dX12_copies_89 : decode cX12_copies 89 = .ok (.iadd, 1) := by decide +kernel
theorem dX12_copies_90 : decode cX12_copies 90 = .ok (.aload_n 0, 1) := by decide +kernel
theorem dX12_copies_91 : decode cX12_copies 91 = .ok (.getfield 168, 3) := by decide +kernel
theorem dX12_copies_94 : decode cX12_copies 94 = .ok (.bipush 27, 2) := by decide +kernel
theorem dX12_copies_96 : decode cX12_copies 96 = .ok (.iload_n 2, 1) := by decide +kernel
theorem dX12_copies_97 : decode cX12_copies 97 = .ok (.imul, 1) := by decide +kernel
theorem dX12_copies_98 : decode cX12_copies 98 = .ok (.iload_n 3, 1) := by decide +kernel
theorem dX12_copies_99 : decode cX12_copies 99 = .ok (.iadd, 1) := by decide +kernel
theorem dX12_copies_100 : decode cX12_copies 100 = .ok (.iaload, 1) := by decide +kernel
theorem dX12_copies_101 : decode cX12_copies 101 = .ok (.iastore, 1) := by decide +kernel
theorem dX12_copies_102 : decode cX12_copies 102 = .ok (.iinc 3 1, 3) := by decide +kernel
theorem dX12_copies_105 : decode cX12_copies 105 = .ok (.goto (-31), 3) := by decide +kernel
theorem dX12_copies_108 : decode cX12_copies 108 = .ok (.aload_n 0, 1) := by decide +kernel
theorem dX12_copies_109 : decode cX12_copies 109 = .ok (.getfield 171, 3) := by decide +kernel
theorem dX12_copies_112 : decode cX12_copies 112 = .ok (.iload_n 1, 1) := by decide +kernel
theorem dX12_copies_113 : decode cX12_copies 113 = .ok (.aload_n 0, 1) := by decide +kernel
theorem dX12_copies_114 : decode cX12_copies 114 = .ok (.getfield 171, 3) := by decide +kernel
theorem dX12_copies_117 : decode cX12_copies 117 = .ok (.iload_n 2, 1) := by decide +kernel
theorem dX12_copies_118 : decode cX12_copies 118 = .ok (.iaload, 1) := by decide +kernel
theorem dX12_copies_119 : decode cX12_copies 119 = .ok (.iastore, 1) := by decide +kernel
theorem dX12_copies_120 : decode cX12_copies 120 = .ok (.iconst 0, 1) := by decide +kernel
theorem dX12_copies_121 : decode cX12_copies 121 = .ok (.istore_n 3, 1) := by decide +kernel
theorem dX12_copies_122 : decode cX12_copies 122 = .ok (.iload_n 3, 1) := by decide +kernel
theorem dX12_copies_123 : decode cX12_copies 123 = .ok (.iconst 3, 1) := by decide +kernel
theorem dX12_copies_124 : decode cX12_copies 124 = .ok (.aload_n 0, 1) := by decide +kernel
theorem dX12_copies_125 : decode cX12_copies 125 = .ok (.getfield 171, 3) := by decide +kernel
theorem dX12_copies_128 : decode cX12_copies 128 = .ok (.iload_n 2, 1) := by decide +kernel
theorem dX12_copies_129 : decode cX12_copies 129 = .ok (.iaload, 1) := by decide +kernel
theorem dX12_copies_130 : decode cX12_copies 130 = .ok (.imul, 1) := by decide +kernel
theorem dX12_copies_131 : decode cX12_copies 131 = .ok (.if_icmp .ge 31, 3) := by decide +kernel
theorem dX12_copies_134 : decode cX12_copies 134 = .ok (.aload_n 0, 1) := by decide +kernel
theorem dX12_copies_135 : decode cX12_copies 135 = .ok (.getfield 174, 3) := by decide +kernel
theorem dX12_copies_138 : decode cX12_copies 138 = .ok (.bipush 120, 2) := by decide +kernel
theorem dX12_copies_140 : decode cX12_copies 140 = .ok (.iload_n 1, 1) := by decide +kernel
theorem dX12_copies_141 : decode cX12_copies 141 = .ok (.imul, 1) := by decide +kernel
theorem dX12_copies_142 : decode cX12_copies 142 = .ok (.iload_n 3, 1) := by decide +kernel
theorem dX12_copies_143 : decode cX12_copies 143 = .ok (.iadd, 1) := by decide +kernel
theorem dX12_copies_144 : decode cX12_copies 144 = .ok (.aload_n 0, 1) := by decide +kernel
theorem dX12_copies_145 : decode cX12_copies 145 = .ok (.getfield 174, 3) := by decide +kernel
theorem dX12_copies_148 : decode cX12_copies 148 = .ok (.bipush 120, 2) := by decide +kernel
theorem dX12_copies_150 : decode cX12_copies 150 = .ok (.iload_n 2, 1) := by decide +kernel
theorem dX12_copies_151 : decode cX12_copies 151 = .ok (.imul, 1) := by decide +kernel
theorem dX12_copies_152 : decode cX12_copies 152 = .ok (.iload_n 3, 1) := by decide +kernel
theorem dX12_copies_153 : decode cX12_copies 153 = .ok (.iadd, 1) := by decide +kernel
theorem dX12_copies_154 : decode cX12_copies 154 = .ok (.iaload, 1) := by decide +kernel
theorem dX12_copies_155 : decode cX12_copies 155 = .ok (.iastore, 1) := by decide +kernel
theorem dX12_copies_156 : decode cX12_copies 156 = .ok (.iinc 3 1, 3) := by decide +kernel
theorem dX12_copies_159 : decode cX12_copies 159 = .ok (.goto (-37), 3) := by decide +kernel
theorem dX12_copies_162 : decode cX12_copies 162 = .ok (.return_, 1) := by decide +kernel
theorem dX12_slot_0 : decode cX12_slot 0 = .ok (.iconst 2, 1) := by decide +kernel
theorem dX12_slot_1 : decode cX12_slot 1 = .ok (.aload_n 0, 1) := by decide +kernel
theorem dX12_slot_2 : decode cX12_slot 2 = .ok (.getfield 177, 3) := by decide +kernel
theorem dX12_slot_5 : decode cX12_slot 5 = .ok (.iload_n 1, 1) := by decide +kernel
theorem dX12_slot_6 : decode cX12_slot 6 = .ok (.iadd, 1) := by decide +kernel
theorem dX12_slot_7 : decode cX12_slot 7 = .ok (.bipush 20, 2) := by decide +kernel
theorem dX12_slot_9 : decode cX12_slot 9 = .ok (.irem, 1) := by decide +kernel
theorem dX12_slot_10 : decode cX12_slot 10 = .ok (.iadd, 1) := by decide +kernel
theorem dX12_slot_11 : decode cX12_slot 11 = .ok (.ireturn, 1) := by decide +kernel
theorem dX12_keeps_0 : decode cX12_keeps 0 = .ok (.aload_n 0, 1) := by decide +kernel
theorem dX12_keeps_1 : decode cX12_keeps 1 = .ok (.getfield 180, 3) := by decide +kernel
theorem dX12_keeps_4 : decode cX12_keeps 4 = .ok (.bipush 20, 2) := by decide +kernel
theorem dX12_keeps_6 : decode cX12_keeps 6 = .ok (.if_icmp .ne 26, 3) := by decide +kernel
theorem dX12_keeps_9 : decode cX12_keeps 9 = .ok (.aload_n 0, 1) := by decide +kernel
theorem dX12_keeps_10 : decode cX12_keeps 10 = .ok (.aload_n 0, 1) := by decide +kernel
theorem dX12_keeps_11 : decode cX12_keeps 11 = .ok (.getfield 177, 3) := by decide +kernel
theorem dX12_keeps_14 : decode cX12_keeps 14 = .ok (.iconst 1, 1) := by decide +kernel
theorem dX12_keeps_15 : decode cX12_keeps 15 = .ok (.iadd, 1) := by decide +kernel
theorem dX12_keeps_16 : decode cX12_keeps 16 = .ok (.bipush 20, 2) := by decide +kernel
theorem dX12_keeps_18 : decode cX12_keeps 18 = .ok (.irem, 1) := by decide +kernel
theorem dX12_keeps_19 : decode cX12_keeps 19 = .ok (.putfield 177, 3) := by decide +kernel
theorem dX12_keeps_22 : decode cX12_keeps 22 = .ok (.aload_n 0, 1) := by decide +kernel
theorem dX12_keeps_23 : decode cX12_keeps 23 = .ok (.dup, 1) := by decide +kernel
theorem dX12_keeps_24 : decode cX12_keeps 24 = .ok (.getfield 180, 3) := by decide +kernel
theorem dX12_keeps_27 : decode cX12_keeps 27 = .ok (.iconst 1, 1) := by decide +kernel
theorem dX12_keeps_28 : decode cX12_keeps 28 = .ok (.isub, 1) := by decide +kernel
theorem dX12_keeps_29 : decode cX12_keeps 29 = .ok (.putfield 180, 3) := by decide +kernel
theorem dX12_keeps_32 : decode cX12_keeps 32 = .ok (.aload_n 0, 1) := by decide +kernel
theorem dX12_keeps_33 : decode cX12_keeps 33 = .ok (.aload_n 0, 1) := by decide +kernel
theorem dX12_keeps_34 : decode cX12_keeps 34 = .ok (.aload_n 0, 1) := by decide +kernel
theorem dX12_keeps_35 : decode cX12_keeps 35 = .ok (.getfield 180, 3) := by decide +kernel
theorem dX12_keeps_38 : decode cX12_keeps 38 = .ok (.invokevirtual 408, 3) := by decide +kernel
theorem dX12_keeps_41 : decode cX12_keeps 41 = .ok (.iconst 0, 1) := by decide +kernel
theorem dX12_keeps_42 : decode cX12_keeps 42 = .ok (.invokevirtual 411, 3) := by decide +kernel
theorem dX12_keeps_45 : decode cX12_keeps 45 = .ok (.aload_n 0, 1) := by decide +kernel
theorem dX12_keeps_46 : decode cX12_keeps 46 = .ok (.dup, 1) := by decide +kernel
theorem dX12_keeps_47 : decode cX12_keeps 47 = .ok (.getfield 180, 3) := by decide +kernel
theorem dX12_keeps_50 : decode cX12_keeps 50 = .ok (.iconst 1, 1) := by decide +kernel
theorem dX12_keeps_51 : decode cX12_keeps 51 = .ok (.iadd, 1) := by decide +kernel
theorem dX12_keeps_52 : decode cX12_keeps 52 = .ok (.putfield 180, 3) := by decide +kernel
theorem dX12_keeps_55 : decode cX12_keeps 55 = .ok (.return_, 1) := by decide +kernel
theorem dX12_undo_0 : decode cX12_undo 0 = .ok (.aload_n 0, 1) := by decide +kernel
theorem dX12_undo_1 : decode cX12_undo 1 = .ok (.getfield 180, 3) := by decide +kernel
theorem dX12_undo_4 : decode cX12_undo 4 = .ok (.ifCond .ne 17, 3) := by decide +kernel
theorem dX12_undo_7 : decode cX12_undo 7 = .ok (.aload_n 0, 1) := by decide +kernel
theorem dX12_undo_8 : decode cX12_undo 8 = .ok (.iconst 4, 1) := by decide +kernel
theorem dX12_undo_9 : decode cX12_undo 9 = .ok (.invokevirtual 216, 3) := by decide +kernel
theorem dX12_undo_12 : decode cX12_undo 12 = .ok (.ifCond .lt 7, 3) := by decide +kernel
theorem dX12_undo_15 : decode cX12_undo 15 = .ok (.iconst 1, 1) := by decide +kernel
theorem dX12_undo_16 : decode cX12_undo 16 = .ok (.goto 4, 3) := by decide +kernel
theorem dX12_undo_19 : decode cX12_undo 19 = .ok (.iconst 0, 1) := by decide +kernel
theorem dX12_undo_20 : decode cX12_undo 20 = .ok (.ireturn, 1) := by decide +kernel
theorem dX12_undo_21 : decode cX12_undo 21 = .ok (.aload_n 0, 1) := by decide +kernel
theorem dX12_undo_22 : decode cX12_undo 22 = .ok (.dup, 1) := by decide +kernel
theorem dX12_undo_23 : decode cX12_undo 23 = .ok (.getfield 180, 3) := by decide +kernel
theorem dX12_undo_26 : decode cX12_undo 26 = .ok (.iconst 1, 1) := by decide +kernel
theorem dX12_undo_27 : decode cX12_undo 27 = .ok (.isub, 1) := by decide +kernel
theorem dX12_undo_28 : decode cX12_undo 28 = .ok (.putfield 180, 3) := by decide +kernel
theorem dX12_undo_31 : decode cX12_undo 31 = .ok (.aload_n 0, 1) := by decide +kernel
theorem dX12_undo_32 : decode cX12_undo 32 = .ok (.iconst 0, 1) := by decide +kernel
theorem dX12_undo_33 : decode cX12_undo 33 = .ok (.aload_n 0, 1) := by decide +kernel
theorem dX12_undo_34 : decode cX12_undo 34 = .ok (.aload_n 0, 1) := by decide +kernel
theorem dX12_undo_35 : decode cX12_undo 35 = .ok (.getfield 180, 3) := by decide +kernel
theorem dX12_undo_38 : decode cX12_undo 38 = .ok (.invokevirtual 408, 3) := by decide +kernel
theorem dX12_undo_41 : decode cX12_undo 41 = .ok (.invokevirtual 411, 3) := by decide +kernel
theorem dX12_undo_44 : decode cX12_undo 44 = .ok (.iconst 1, 1) := by decide +kernel
theorem dX12_undo_45 : decode cX12_undo 45 = .ok (.ireturn, 1) := by decide +kernel
theorem dX12_held_0 : decode cX12_held 0 = .ok (.lload_n 0, 1) := by decide +kernel
theorem dX12_held_1 : decode cX12_held 1 = .ok (.ldc2_w 414, 3) := by decide +kernel
theorem dX12_held_4 : decode cX12_held 4 = .ok (.lcmp, 1) := by decide +kernel
theorem dX12_held_5 : decode cX12_held 5 = .ok (.ifCond .le 9, 3) := by decide +kernel
theorem dX12_held_8 : decode cX12_held 8 = .ok (.ldc2_w 414, 3) := by decide +kernel
theorem dX12_held_11 : decode cX12_held 11 = .ok (.goto 18, 3) := by decide +kernel
theorem dX12_held_14 : decode cX12_held 14 = .ok (.lload_n 0, 1) := by decide +kernel
theorem dX12_held_15 : decode cX12_held 15 = .ok (.ldc2_w 416, 3) := by decide +kernel
theorem dX12_held_18 : decode cX12_held 18 = .ok (.lcmp, 1) := by decide +kernel
theorem dX12_held_19 : decode cX12_held 19 = .ok (.ifCond .ge 9, 3) := by decide +kernel
theorem dX12_held_22 : decode cX12_held 22 = .ok (.ldc2_w 416, 3) := by decide +kernel
theorem dX12_held_25 : decode cX12_held 25 = .ok (.goto 4, 3) := by decide +kernel
theorem dX12_held_28 : decode cX12_held 28 = .ok (.lload_n 0, 1) := by decide +kernel
theorem dX12_held_29 : decode cX12_held 29 = .ok (.lreturn, 1) := by decide +kernel
theorem dX12_floor_0 : decode cX12_floor 0 = .ok (.lload_n 2, 1) := by decide +kernel
theorem dX12_floor_1 : decode cX12_floor 1 = .ok (.lconst 0, 1) := by decide +kernel
theorem dX12_floor_2 : decode cX12_floor 2 = .ok (.lcmp, 1) := by decide +kernel
theorem dX12_floor_3 : decode cX12_floor 3 = .ok (.ifCond .ne 5, 3) := by decide +kernel
theorem dX12_floor_6 : decode cX12_floor 6 = .ok (.lconst 0, 1) := by decide +kernel
theorem dX12_floor_7 : decode cX12_floor 7 = .ok (.lreturn, 1) := by decide +kernel
theorem dX12_floor_8 : decode cX12_floor 8 = .ok (.lload_n 0, 1) := by decide +kernel
theorem dX12_floor_9 : decode cX12_floor 9 = .ok (.lload_n 2, 1) := by decide +kernel
theorem dX12_floor_10 : decode cX12_floor 10 = .ok (.ldiv, 1) := by decide +kernel
theorem dX12_floor_11 : decode cX12_floor 11 = .ok (.lstore 4, 2) := by decide +kernel
theorem dX12_floor_13 : decode cX12_floor 13 = .ok (.lload_n 0, 1) := by decide +kernel
theorem dX12_floor_14 : decode cX12_floor 14 = .ok (.lload_n 2, 1) := by decide +kernel
theorem dX12_floor_15 : decode cX12_floor 15 = .ok (.lrem, 1) := by decide +kernel
theorem dX12_floor_16 : decode cX12_floor 16 = .ok (.lconst 0, 1) := by decide +kernel
theorem dX12_floor_17 : decode cX12_floor 17 = .ok (.lcmp, 1) := by decide +kernel
theorem dX12_floor_18 : decode cX12_floor 18 = .ok (.ifCond .eq 35, 3) := by decide +kernel
theorem dX12_floor_21 : decode cX12_floor 21 = .ok (.lload_n 0, 1) := by decide +kernel
theorem dX12_floor_22 : decode cX12_floor 22 = .ok (.lconst 0, 1) := by decide +kernel
theorem dX12_floor_23 : decode cX12_floor 23 = .ok (.lcmp, 1) := by decide +kernel
theorem dX12_floor_24 : decode cX12_floor 24 = .ok (.ifCond .ge 7, 3) := by decide +kernel
theorem dX12_floor_27 : decode cX12_floor 27 = .ok (.iconst 1, 1) := by decide +kernel
theorem dX12_floor_28 : decode cX12_floor 28 = .ok (.goto 4, 3) := by decide +kernel
theorem dX12_floor_31 : decode cX12_floor 31 = .ok (.iconst 0, 1) := by decide +kernel
theorem dX12_floor_32 : decode cX12_floor 32 = .ok (.lload_n 2, 1) := by decide +kernel
theorem dX12_floor_33 : decode cX12_floor 33 = .ok (.lconst 0, 1) := by decide +kernel
theorem dX12_floor_34 : decode cX12_floor 34 = .ok (.lcmp, 1) := by decide +kernel
theorem dX12_floor_35 : decode cX12_floor 35 = .ok (.ifCond .ge 7, 3) := by decide +kernel
theorem dX12_floor_38 : decode cX12_floor 38 = .ok (.iconst 1, 1) := by decide +kernel
theorem dX12_floor_39 : decode cX12_floor 39 = .ok (.goto 4, 3) := by decide +kernel
theorem dX12_floor_42 : decode cX12_floor 42 = .ok (.iconst 0, 1) := by decide +kernel
theorem dX12_floor_43 : decode cX12_floor 43 = .ok (.if_icmp .eq 10, 3) := by decide +kernel
theorem dX12_floor_46 : decode cX12_floor 46 = .ok (.lload 4, 2) := by decide +kernel
theorem dX12_floor_48 : decode cX12_floor 48 = .ok (.lconst 1, 1) := by decide +kernel
theorem dX12_floor_49 : decode cX12_floor 49 = .ok (.lsub, 1) := by decide +kernel
theorem dX12_floor_50 : decode cX12_floor 50 = .ok (.goto 5, 3) := by decide +kernel
theorem dX12_floor_53 : decode cX12_floor 53 = .ok (.lload 4, 2) := by decide +kernel
theorem dX12_floor_55 : decode cX12_floor 55 = .ok (.lreturn, 1) := by decide +kernel
theorem dX12_two_0 : decode cX12_two 0 = .ok (.iload_n 0, 1) := by decide +kernel
theorem dX12_two_1 : decode cX12_two 1 = .ok (.tableswitch 176 31 41 #[59, 66, 73, 80, 89, 112, 124, 136, 148, 160, 172], 59) := by decide +kernel
theorem dX12_two_60 : decode cX12_two 60 = .ok (.lload_n 1, 1) := by decide +kernel
theorem dX12_two_61 : decode cX12_two 61 = .ok (.lload_n 3, 1) := by decide +kernel
theorem dX12_two_62 : decode cX12_two 62 = .ok (.ladd, 1) := by decide +kernel
theorem dX12_two_63 : decode cX12_two 63 = .ok (.invokestatic 418, 3) := by decide +kernel
theorem dX12_two_66 : decode cX12_two 66 = .ok (.lreturn, 1) := by decide +kernel
theorem dX12_two_67 : decode cX12_two 67 = .ok (.lload_n 1, 1) := by decide +kernel
theorem dX12_two_68 : decode cX12_two 68 = .ok (.lload_n 3, 1) := by decide +kernel
theorem dX12_two_69 : decode cX12_two 69 = .ok (.lsub, 1) := by decide +kernel
theorem dX12_two_70 : decode cX12_two 70 = .ok (.invokestatic 418, 3) := by decide +kernel
theorem dX12_two_73 : decode cX12_two 73 = .ok (.lreturn, 1) := by decide +kernel
theorem dX12_two_74 : decode cX12_two 74 = .ok (.lload_n 1, 1) := by decide +kernel
theorem dX12_two_75 : decode cX12_two 75 = .ok (.lload_n 3, 1) := by decide +kernel
theorem dX12_two_76 : decode cX12_two 76 = .ok (.lmul, 1) := by decide +kernel
theorem dX12_two_77 : decode cX12_two 77 = .ok (.invokestatic 418, 3) := by decide +kernel
theorem dX12_two_80 : decode cX12_two 80 = .ok (.lreturn, 1) := by decide +kernel
theorem dX12_two_81 : decode cX12_two 81 = .ok (.lload_n 1, 1) := by decide +kernel
theorem dX12_two_82 : decode cX12_two 82 = .ok (.lload_n 3, 1) := by decide +kernel
theorem dX12_two_83 : decode cX12_two 83 = .ok (.invokestatic 422, 3) := by decide +kernel
theorem dX12_two_86 : decode cX12_two 86 = .ok (.invokestatic 418, 3) := by decide +kernel
theorem dX12_two_89 : decode cX12_two 89 = .ok (.lreturn, 1) := by decide +kernel
theorem dX12_two_90 : decode cX12_two 90 = .ok (.lload_n 3, 1) := by decide +kernel
theorem dX12_two_91 : decode cX12_two 91 = .ok (.lconst 0, 1) := by decide +kernel
theorem dX12_two_92 : decode cX12_two 92 = .ok (.lcmp, 1) := by decide +kernel
theorem dX12_two_93 : decode cX12_two 93 = .ok (.ifCond .ne 7, 3) := by decide +kernel
theorem dX12_two_96 : decode cX12_two 96 = .ok (.lconst 0, 1) := by decide +kernel
theorem dX12_two_97 : decode cX12_two 97 = .ok (.goto 15, 3) := by decide +kernel
theorem dX12_two_100 : decode cX12_two 100 = .ok (.lload_n 1, 1) := by decide +kernel
theorem dX12_two_101 : decode cX12_two 101 = .ok (.lload_n 3, 1) := by decide +kernel
theorem dX12_two_102 : decode cX12_two 102 = .ok (.lload_n 1, 1) := by decide +kernel
theorem dX12_two_103 : decode cX12_two 103 = .ok (.lload_n 3, 1) := by decide +kernel
theorem dX12_two_104 : decode cX12_two 104 = .ok (.invokestatic 422, 3) := by decide +kernel
theorem dX12_two_107 : decode cX12_two 107 = .ok (.lmul, 1) := by decide +kernel
theorem dX12_two_108 : decode cX12_two 108 = .ok (.lsub, 1) := by decide +kernel
theorem dX12_two_109 : decode cX12_two 109 = .ok (.invokestatic 418, 3) := by decide +kernel
theorem dX12_two_112 : decode cX12_two 112 = .ok (.lreturn, 1) := by decide +kernel
theorem dX12_two_113 : decode cX12_two 113 = .ok (.lload_n 1, 1) := by decide +kernel
theorem dX12_two_114 : decode cX12_two 114 = .ok (.lload_n 3, 1) := by decide +kernel
theorem dX12_two_115 : decode cX12_two 115 = .ok (.lcmp, 1) := by decide +kernel
theorem dX12_two_116 : decode cX12_two 116 = .ok (.ifCond .ge 7, 3) := by decide +kernel
theorem dX12_two_119 : decode cX12_two 119 = .ok (.lload_n 1, 1) := by decide +kernel
theorem dX12_two_120 : decode cX12_two 120 = .ok (.goto 4, 3) := by decide +kernel
theorem dX12_two_123 : decode cX12_two 123 = .ok (.lload_n 3, 1) := by decide +kernel
theorem dX12_two_124 : decode cX12_two 124 = .ok (.lreturn, 1) := by decide +kernel
theorem dX12_two_125 : decode cX12_two 125 = .ok (.lload_n 1, 1) := by decide +kernel
theorem dX12_two_126 : decode cX12_two 126 = .ok (.lload_n 3, 1) := by decide +kernel
theorem dX12_two_127 : decode cX12_two 127 = .ok (.lcmp, 1) := by decide +kernel
theorem dX12_two_128 : decode cX12_two 128 = .ok (.ifCond .le 7, 3) := by decide +kernel
theorem dX12_two_131 : decode cX12_two 131 = .ok (.lload_n 1, 1) := by decide +kernel
theorem dX12_two_132 : decode cX12_two 132 = .ok (.goto 4, 3) := by decide +kernel
theorem dX12_two_135 : decode cX12_two 135 = .ok (.lload_n 3, 1) := by decide +kernel
theorem dX12_two_136 : decode cX12_two 136 = .ok (.lreturn, 1) := by decide +kernel
theorem dX12_two_137 : decode cX12_two 137 = .ok (.lload_n 1, 1) := by decide +kernel
theorem dX12_two_138 : decode cX12_two 138 = .ok (.lload_n 3, 1) := by decide +kernel
theorem dX12_two_139 : decode cX12_two 139 = .ok (.lcmp, 1) := by decide +kernel
theorem dX12_two_140 : decode cX12_two 140 = .ok (.ifCond .ge 7, 3) := by decide +kernel
theorem dX12_two_143 : decode cX12_two 143 = .ok (.lconst 1, 1) := by decide +kernel
theorem dX12_two_144 : decode cX12_two 144 = .ok (.goto 4, 3) := by decide +kernel
theorem dX12_two_147 : decode cX12_two 147 = .ok (.lconst 0, 1) := by decide +kernel
theorem dX12_two_148 : decode cX12_two 148 = .ok (.lreturn, 1) := by decide +kernel
theorem dX12_two_149 : decode cX12_two 149 = .ok (.lload_n 1, 1) := by decide +kernel
theorem dX12_two_150 : decode cX12_two 150 = .ok (.lload_n 3, 1) := by decide +kernel
theorem dX12_two_151 : decode cX12_two 151 = .ok (.lcmp, 1) := by decide +kernel
theorem dX12_two_152 : decode cX12_two 152 = .ok (.ifCond .le 7, 3) := by decide +kernel
theorem dX12_two_155 : decode cX12_two 155 = .ok (.lconst 1, 1) := by decide +kernel
theorem dX12_two_156 : decode cX12_two 156 = .ok (.goto 4, 3) := by decide +kernel
theorem dX12_two_159 : decode cX12_two 159 = .ok (.lconst 0, 1) := by decide +kernel
theorem dX12_two_160 : decode cX12_two 160 = .ok (.lreturn, 1) := by decide +kernel
theorem dX12_two_161 : decode cX12_two 161 = .ok (.lload_n 1, 1) := by decide +kernel
theorem dX12_two_162 : decode cX12_two 162 = .ok (.lload_n 3, 1) := by decide +kernel
theorem dX12_two_163 : decode cX12_two 163 = .ok (.lcmp, 1) := by decide +kernel
theorem dX12_two_164 : decode cX12_two 164 = .ok (.ifCond .ne 7, 3) := by decide +kernel
theorem dX12_two_167 : decode cX12_two 167 = .ok (.lconst 1, 1) := by decide +kernel
theorem dX12_two_168 : decode cX12_two 168 = .ok (.goto 4, 3) := by decide +kernel
theorem dX12_two_171 : decode cX12_two 171 = .ok (.lconst 0, 1) := by decide +kernel
theorem dX12_two_172 : decode cX12_two 172 = .ok (.lreturn, 1) := by decide +kernel
theorem dX12_two_173 : decode cX12_two 173 = .ok (.lload_n 1, 1) := by decide +kernel
theorem dX12_two_174 : decode cX12_two 174 = .ok (.lload_n 3, 1) := by decide +kernel
theorem dX12_two_175 : decode cX12_two 175 = .ok (.land, 1) := by decide +kernel
theorem dX12_two_176 : decode cX12_two 176 = .ok (.lreturn, 1) := by decide +kernel
theorem dX12_two_177 : decode cX12_two 177 = .ok (.lload_n 1, 1) := by decide +kernel
theorem dX12_two_178 : decode cX12_two 178 = .ok (.lload_n 3, 1) := by decide +kernel
theorem dX12_two_179 : decode cX12_two 179 = .ok (.lor, 1) := by decide +kernel
theorem dX12_two_180 : decode cX12_two 180 = .ok (.lreturn, 1) := by decide +kernel
theorem dX12_reckons_0 : decode cX12_reckons 0 = .ok (.iconst 0, 1) := by decide +kernel
theorem dX12_reckons_1 : decode cX12_reckons 1 = .ok (.istore_n 2, 1) := by decide +kernel
theorem dX12_reckons_2 : decode cX12_reckons 2 = .ok (.sipush 1600, 3) := by decide +kernel
theorem dX12_reckons_5 : decode cX12_reckons 5 = .ok (.aload_n 0, 1) := by decide +kernel
theorem dX12_reckons_6 : decode cX12_reckons 6 = .ok (.getfield 51, 3) := by decide +kernel
theorem dX12_reckons_9 : decode cX12_reckons 9 = .ok (.imul, 1) := by decide +kernel
theorem dX12_reckons_10 : decode cX12_reckons 10 = .ok (.aload_n 0, 1) := by decide +kernel
theorem dX12_reckons_11 : decode cX12_reckons 11 = .ok (.getfield 93, 3) := by decide +kernel
theorem dX12_reckons_14 : decode cX12_reckons 14 = .ok (.iconst 2, 1) := by decide +kernel
theorem dX12_reckons_15 : decode cX12_reckons 15 = .ok (.aload_n 0, 1) := by decide +kernel
theorem dX12_reckons_16 : decode cX12_reckons 16 = .ok (.getfield 51, 3) := by decide +kernel
theorem dX12_reckons_19 : decode cX12_reckons 19 = .ok (.imul, 1) := by decide +kernel
theorem dX12_reckons_20 : decode cX12_reckons 20 = .ok (.iload_n 1, 1) := by decide +kernel
theorem dX12_reckons_21 : decode cX12_reckons 21 = .ok (.iadd, 1) := by decide +kernel
theorem dX12_reckons_22 : decode cX12_reckons 22 = .ok (.iaload, 1) := by decide +kernel
theorem dX12_reckons_23 : decode cX12_reckons 23 = .ok (.iadd, 1) := by decide +kernel
theorem dX12_reckons_24 : decode cX12_reckons 24 = .ok (.istore_n 3, 1) := by decide +kernel
theorem dX12_reckons_25 : decode cX12_reckons 25 = .ok (.iload_n 3, 1) := by decide +kernel
theorem dX12_reckons_26 : decode cX12_reckons 26 = .ok (.sipush 1600, 3) := by decide +kernel
theorem dX12_reckons_29 : decode cX12_reckons 29 = .ok (.aload_n 0, 1) := by decide +kernel
theorem dX12_reckons_30 : decode cX12_reckons 30 = .ok (.getfield 51, 3) := by decide +kernel
theorem dX12_reckons_33 : decode cX12_reckons 33 = .ok (.imul, 1) := by decide +kernel
theorem dX12_reckons_34 : decode cX12_reckons 34 = .ok (.aload_n 0, 1) := by decide +kernel
theorem dX12_reckons_35 : decode cX12_reckons 35 = .ok (.getfield 96, 3) := by decide +kernel
theorem dX12_reckons_38 : decode cX12_reckons 38 = .ok (.iconst 2, 1) := by decide +kernel
theorem dX12_reckons_39 : decode cX12_reckons 39 = .ok (.aload_n 0, 1) := by decide +kernel
theorem dX12_reckons_40 : decode cX12_reckons 40 = .ok (.getfield 51, 3) := by decide +kernel
theorem dX12_reckons_43 : decode cX12_reckons 43 = .ok (.imul, 1) := by decide +kernel
theorem dX12_reckons_44 : decode cX12_reckons 44 = .ok (.iload_n 1, 1) := by decide +kernel
theorem dX12_reckons_45 : decode cX12_reckons 45 = .ok (.iadd, 1) := by decide +kernel
theorem dX12_reckons_46 : decode cX12_reckons 46 = .ok (.iaload, 1) := by decide +kernel
theorem dX12_reckons_47 : decode cX12_reckons 47 = .ok (.iadd, 1) := by decide +kernel
theorem dX12_reckons_48 : decode cX12_reckons 48 = .ok (.if_icmp .ge 179, 3) := by decide +kernel
theorem dX12_reckons_51 : decode cX12_reckons 51 = .ok (.aload_n 0, 1) := by decide +kernel
theorem dX12_reckons_52 : decode cX12_reckons 52 = .ok (.getfield 99, 3) := by decide +kernel
theorem dX12_reckons_55 : decode cX12_reckons 55 = .ok (.iload_n 3, 1) := by decide +kernel
theorem dX12_reckons_56 : decode cX12_reckons 56 = .ok (.iaload, 1) := by decide +kernel
theorem dX12_reckons_57 : decode cX12_reckons 57 = .ok (.istore 4, 2) := by decide +kernel
theorem dX12_reckons_59 : decode cX12_reckons 59 = .ok (.iload 4, 2) := by decide +kernel
theorem dX12_reckons_61 : decode cX12_reckons 61 = .ok (.bipush 30, 2) := by decide +kernel
theorem dX12_reckons_63 : decode cX12_reckons 63 = .ok (.if_icmp .gt 49, 3) := by decide +kernel
theorem dX12_reckons_66 : decode cX12_reckons 66 = .ok (.aload_n 0, 1) := by decide +kernel
theorem dX12_reckons_67 : decode cX12_reckons 67 = .ok (.getfield 186, 3) := by decide +kernel
theorem dX12_reckons_70 : decode cX12_reckons 70 = .ok (.iload_n 2, 1) := by decide +kernel
theorem dX12_reckons_71 : decode cX12_reckons 71 = .ok (.iload 4, 2) := by decide +kernel
theorem dX12_reckons_73 : decode cX12_reckons 73 = .ok (.ifCond .ne 13, 3) := by decide +kernel
theorem dX12_reckons_76 : decode cX12_reckons 76 = .ok (.aload_n 0, 1) := by decide +kernel
theorem dX12_reckons_77 : decode cX12_reckons 77 = .ok (.getfield 102, 3) := by decide +kernel
theorem dX12_reckons_80 : decode cX12_reckons 80 = .ok (.iload_n 3, 1) := by decide +kernel
theorem dX12_reckons_81 : decode cX12_reckons 81 = .ok (.iaload, 1) := by decide +kernel
theorem dX12_reckons_82 : decode cX12_reckons 82 = .ok (.i2l, 1) := by decide +kernel
theorem dX12_reckons_83 : decode cX12_reckons 83 = .ok (.goto 22, 3) := by decide +kernel
theorem dX12_reckons_86 : decode cX12_reckons 86 = .ok (.iload 4, 2) := by decide +kernel
theorem dX12_reckons_88 : decode cX12_reckons 88 = .ok (.bipush 30, 2) := by decide +kernel
theorem dX12_reckons_90 : decode cX12_reckons 90 = .ok (.if_icmp .ne 7, 3) := by decide +kernel
theorem dX12_reckons_93 : decode cX12_reckons 93 = .ok (.lconst 1, 1) := by decide +kernel
theorem dX12_reckons_94 : decode cX12_reckons 94 = .ok (.goto 11, 3) := by decide +kernel
theorem dX12_reckons_97 : decode cX12_reckons 97 = .ok (.aload_n 0, 1) := by decide +kernel
theorem dX12_reckons_98 : decode cX12_reckons 98 = .ok (.getfield 189, 3) := by decide +kernel
theorem dX12_reckons_101 : decode cX12_reckons 101 = .ok (.iload 4, 2) := by decide +kernel
theorem dX12_reckons_103 : decode cX12_reckons 103 = .ok (.iaload, 1) := by decide +kernel
theorem dX12_reckons_104 : decode cX12_reckons 104 = .ok (.i2l, 1) := by decide +kernel
theorem dX12_reckons_105 : decode cX12_reckons 105 = .ok (.lastore, 1) := by decide +kernel
theorem dX12_reckons_106 : decode cX12_reckons 106 = .ok (.iinc 2 1, 3) := by decide +kernel
theorem dX12_reckons_109 : decode cX12_reckons 109 = .ok (.goto 112, 3) := by decide +kernel
theorem dX12_reckons_112 : decode cX12_reckons 112 = .ok (.iload 4, 2) := by decide +kernel
theorem dX12_reckons_114 : decode cX12_reckons 114 = .ok (.bipush 43, 2) := by decide +kernel
theorem dX12_reckons_116 : decode cX12_reckons 116 = .ok (.if_icmp .ne 24, 3) := by decide +kernel
theorem dX12_reckons_119 : decode cX12_reckons 119 = .ok (.aload_n 0, 1) := by decide +kernel
theorem dX12_reckons_120 : decode cX12_reckons 120 = .ok (.getfield 186, 3) := by decide +kernel
theorem dX12_reckons_123 : decode cX12_reckons 123 = .ok (.iload_n 2, 1) := by decide +kernel
theorem dX12_reckons_124 : decode cX12_reckons 124 = .ok (.iconst 1, 1) := by decide +kernel
theorem dX12_reckons_125 : decode cX12_reckons 125 = .ok (.isub, 1) := by decide +kernel
theorem dX12_reckons_126 : decode cX12_reckons 126 = .ok (.lconst 1, 1) := by decide +kernel
theorem dX12_reckons_127 : decode cX12_reckons 127 = .ok (.aload_n 0, 1) := by decide +kernel
theorem dX12_reckons_128 : decode cX12_reckons 128 = .ok (.getfield 186, 3) := by decide +kernel
theorem dX12_reckons_131 : decode cX12_reckons 131 = .ok (.iload_n 2, 1) := by decide +kernel
theorem dX12_reckons_132 : decode cX12_reckons 132 = .ok (.iconst 1, 1) := by decide +kernel
theorem dX12_reckons_133 : decode cX12_reckons 133 = .ok (.isub, 1) := by decide +kernel
theorem dX12_reckons_134 : decode cX12_reckons 134 = .ok (.laload, 1) := by decide +kernel
theorem dX12_reckons_135 : decode cX12_reckons 135 = .ok (.lsub, 1) := by decide +kernel
theorem dX12_reckons_136 : decode cX12_reckons 136 = .ok (.lastore, 1) := by decide +kernel
theorem dX12_reckons_137 : decode cX12_reckons 137 = .ok (.goto 84, 3) := by decide +kernel
theorem dX12_reckons_140 : decode cX12_reckons 140 = .ok (.iload 4, 2) := by decide +kernel
theorem dX12_reckons_142 : decode cX12_reckons 142 = .ok (.bipush 44, 2) := by decide +kernel
theorem dX12_reckons_144 : decode cX12_reckons 144 = .ok (.if_icmp .ne 47, 3) := by decide +kernel
theorem dX12_reckons_147 : decode cX12_reckons 147 = .ok (.iinc 2 (-2), 3) := by decide +kernel
theorem dX12_reckons_150 : decode cX12_reckons 150 = .ok (.aload_n 0, 1) := by decide +kernel
theorem dX12_reckons_151 : decode cX12_reckons 151 = .ok (.getfield 186, 3) := by decide +kernel
theorem dX12_reckons_154 : decode cX12_reckons 154 = .ok (.iload_n 2, 1) := by decide +kernel
theorem dX12_reckons_155 : decode cX12_reckons 155 = .ok (.iconst 1, 1) := by decide +kernel
theorem dX12_reckons_156 : decode cX12_reckons 156 = .ok (.isub, 1) := by decide +kernel
theorem dX12_reckons_157 : decode cX12_reckons 157 = .ok (.aload_n 0, 1) := by decide +kernel
theorem dX12_reckons_158 : decode cX12_reckons 158 = .ok (.getfield 186, 3) := by decide +kernel
theorem dX12_reckons_161 : decode cX12_reckons 161 = .ok (.iload_n 2, 1) := by decide +kernel
theorem dX12_reckons_162 : decode cX12_reckons 162 = .ok (.iconst 1, 1) := by decide +kernel
theorem dX12_reckons_163 : decode cX12_reckons 163 = .ok (.isub, 1) := by decide +kernel
theorem dX12_reckons_164 : decode cX12_reckons 164 = .ok (.laload, 1) := by decide +kernel
theorem dX12_reckons_165 : decode cX12_reckons 165 = .ok (.lconst 1, 1) := by decide +kernel
theorem dX12_reckons_166 : decode cX12_reckons 166 = .ok (.lcmp, 1) := by decide +kernel
theorem dX12_reckons_167 : decode cX12_reckons 167 = .ok (.ifCond .ne 12, 3) := by decide +kernel
theorem dX12_reckons_170 : decode cX12_reckons 170 = .ok (.aload_n 0, 1) := by decide +kernel
theorem dX12_reckons_171 : decode cX12_reckons 171 = .ok (.getfield 186, 3) := by decide +kernel
theorem dX12_reckons_174 : decode cX12_reckons 174 = .ok (.iload_n 2, 1) := by decide +kernel
theorem dX12_reckons_175 : decode cX12_reckons 175 = .ok (.laload, 1) := by decide +kernel
theorem dX12_reckons_176 : decode cX12_reckons 176 = .ok (.goto 11, 3) := by decide +kernel
theorem dX12_reckons_179 : decode cX12_reckons 179 = .ok (.aload_n 0, 1) := by decide +kernel
theorem dX12_reckons_180 : decode cX12_reckons 180 = .ok (.getfield 186, 3) := by decide +kernel
theorem dX12_reckons_183 : decode cX12_reckons 183 = .ok (.iload_n 2, 1) := by decide +kernel
theorem dX12_reckons_184 : decode cX12_reckons 184 = .ok (.iconst 1, 1) := by decide +kernel
theorem dX12_reckons_185 : decode cX12_reckons 185 = .ok (.iadd, 1) := by decide +kernel
theorem dX12_reckons_186 : decode cX12_reckons 186 = .ok (.laload, 1) := by decide +kernel
theorem dX12_reckons_187 : decode cX12_reckons 187 = .ok (.lastore, 1) := by decide +kernel
theorem dX12_reckons_188 : decode cX12_reckons 188 = .ok (.goto 33, 3) := by decide +kernel
theorem dX12_reckons_191 : decode cX12_reckons 191 = .ok (.iinc 2 (-1), 3) := by decide +kernel
theorem dX12_reckons_194 : decode cX12_reckons 194 = .ok (.aload_n 0, 1) := by decide +kernel
theorem dX12_reckons_195 : decode cX12_reckons 195 = .ok (.getfield 186, 3) := by decide +kernel
theorem dX12_reckons_198 : decode cX12_reckons 198 = .ok (.iload_n 2, 1) := by decide +kernel
theorem dX12_reckons_199 : decode cX12_reckons 199 = .ok (.iconst 1, 1) := by decide +kernel
theorem dX12_reckons_200 : decode cX12_reckons 200 = .ok (.isub, 1) := by decide +kernel
theorem dX12_reckons_201 : decode cX12_reckons 201 = .ok (.iload 4, 2) := by decide +kernel
theorem dX12_reckons_203 : decode cX12_reckons 203 = .ok (.aload_n 0, 1) := by decide +kernel
theorem dX12_reckons_204 : decode cX12_reckons 204 = .ok (.getfield 186, 3) := by decide +kernel
theorem dX12_reckons_207 : decode cX12_reckons 207 = .ok (.iload_n 2, 1) := by decide +kernel
theorem dX12_reckons_208 : decode cX12_reckons 208 = .ok (.iconst 1, 1) := by decide +kernel
theorem dX12_reckons_209 : decode cX12_reckons 209 = .ok (.isub, 1) := by decide +kernel
theorem dX12_reckons_210 : decode cX12_reckons 210 = .ok (.laload, 1) := by decide +kernel
theorem dX12_reckons_211 : decode cX12_reckons 211 = .ok (.aload_n 0, 1) := by decide +kernel
theorem dX12_reckons_212 : decode cX12_reckons 212 = .ok (.getfield 186, 3) := by decide +kernel
theorem dX12_reckons_215 : decode cX12_reckons 215 = .ok (.iload_n 2, 1) := by decide +kernel
theorem dX12_reckons_216 : decode cX12_reckons 216 = .ok (.laload, 1) := by decide +kernel
theorem dX12_reckons_217 : decode cX12_reckons 217 = .ok (.invokestatic 426, 3) := by decide +kernel
theorem dX12_reckons_220 : decode cX12_reckons 220 = .ok (.lastore, 1) := by decide +kernel
theorem dX12_reckons_221 : decode cX12_reckons 221 = .ok (.iinc 3 1, 3) := by decide +kernel
theorem dX12_reckons_224 : decode cX12_reckons 224 = .ok (.goto (-199), 3) := by decide +kernel
theorem dX12_reckons_227 : decode cX12_reckons 227 = .ok (.aload_n 0, 1) := by decide +kernel
theorem dX12_reckons_228 : decode cX12_reckons 228 = .ok (.getfield 186, 3) := by decide +kernel
theorem dX12_reckons_231 : decode cX12_reckons 231 = .ok (.iconst 0, 1) := by decide +kernel
theorem dX12_reckons_232 : decode cX12_reckons 232 = .ok (.laload, 1) := by decide +kernel
theorem dX12_reckons_233 : decode cX12_reckons 233 = .ok (.lreturn, 1) := by decide +kernel
set_option maxRecDepth 20000 in
theorem w_X12_measures_J171 {Y : YT} {X : CX} (C : Cx Y X cX12_measures 5 RX12 2) {Q : Mem → Prop} (hR : Rt Y X none (PQv Y Q)) {v1 : Int} {v2 : Int} {v3 : Int} {k79 : Int → Mem → Prop} (hk79 : ∀ (v1 : Int)  (M : Mem), k79 v1 M → G Y X 5 79 [(0, vR Y 199), (1, vI v1)] ([]) M) {k87 : Int → Mem → Prop} (hk87 : ∀ (v2 : Int)  (M : Mem), k87 v2 M → G Y X 5 87 [(0, vR Y 199), (1, vI v1), (2, vI v2)] ([]) M) {k95 : Int → Mem → Prop} (hk95 : ∀ (v3 : Int)  (M : Mem), k95 v3 M → G Y X 5 95 [(0, vR Y 199), (1, vI v1), (2, vI v2), (3, vI v3)] ([]) M) {M : Mem}  (h : m_X12_measures_J171 k79 k87 k95 Q v1 v2 v3 M) : G Y X 5 171 [(0, vR Y 199), (1, vI v1), (2, vI v2), (3, vI v3)] ([]) M := by
  unfold m_X12_measures_J171 at h
  refine g_iinc (q := 3) (v := v3 + 1) (lv' := [(3, vI (v3 + 1)), (0, vR Y 199), (1, vI v1), (2, vI v2)]) C dX12_measures_171 rfl rfl (by decide) rfl ?_
  refine g_goto (tgt := 95) C dX12_measures_174 (by decide) ?_
  refine G.sub [1, 2, 3, 0] rfl ?_
  exact hk95 _ _ h
set_option maxRecDepth 20000 in
theorem w_X12_measures_L95 {Y : YT} {X : CX} (C : Cx Y X cX12_measures 5 RX12 2) {Q : Mem → Prop} (hR : Rt Y X none (PQv Y Q)) {v1 : Int} {v2 : Int} {k79 : Int → Mem → Prop} (hk79 : ∀ (v1 : Int)  (M : Mem), k79 v1 M → G Y X 5 79 [(0, vR Y 199), (1, vI v1)] ([]) M) {k87 : Int → Mem → Prop} (hk87 : ∀ (v2 : Int)  (M : Mem), k87 v2 M → G Y X 5 87 [(0, vR Y 199), (1, vI v1), (2, vI v2)] ([]) M) : ∀ (f : Nat) (v3 : Int) (M : Mem), m_X12_measures_L95 k79 k87 Q v1 v2 f v3 M → G Y X 5 95 [(0, vR Y 199), (1, vI v1), (2, vI v2), (3, vI v3)] ([]) M := by
  intro f
  induction f with
  | zero =>
    intro v3 M h
    exact (show False from h).elim
  | succ f ih =>
    intro v3 M h
    unfold m_X12_measures_L95 at h
    refine g_iload_n (q := 3) C dX12_measures_95 rfl rfl ?_
    refine g_bipush (v := 7) C dX12_measures_96 (by decide +kernel) ?_
    obtain ⟨g1, h⟩ := h
    obtain ⟨ht, hf⟩ := h
    refine g_icmp_ge (tgt := 177) C dX12_measures_98 (by decide) g1 (by decide) (fun c => ?_) (fun c => ?_)
    · have h := ht c
      refine g_iinc (q := 2) (v := v2 + 1) (lv' := [(2, vI (v2 + 1)), (0, vR Y 199), (1, vI v1), (3, vI v3)]) C dX12_measures_177 rfl rfl (by decide) rfl ?_
      refine g_goto (tgt := 87) C dX12_measures_180 (by decide) ?_
      refine G.sub [1, 2, 0] rfl ?_
      exact hk87 _ _ h
    · have h := hf c
      refine g_aload_n (q := 0) C dX12_measures_101 rfl rfl ?_
      refine g_getS (v := 204) C fX12_63 dX12_measures_102 kd_199 rfl ?_
      refine g_aload_n (q := 0) C dX12_measures_105 rfl rfl ?_
      refine g_aload_n (q := 0) C dX12_measures_106 rfl rfl ?_
      refine g_getI C fX12_115 (by decide) dX12_measures_107 kd_199 ?_
      refine g_iload_n (q := 2) C dX12_measures_110 rfl rfl ?_
      refine g_iload_n (q := 1) C dX12_measures_111 rfl rfl ?_
      refine g_cVi (As := [vI (M 199 34), vI v2, vI v1]) C clX12_361 clvX12_at dX12_measures_112 kd_199 rfl (Nat.le_of_ble_eq_true rfl) rfl (by decide) (t_X12_at (Cx.ok C) h) (fun r3 M2 h => ?_)
      obtain ⟨g4, h⟩ := h
      refine g_iald C dX12_measures_115 kd_204 ln_204 g4 ?_
      refine g_aload_n (q := 0) C dX12_measures_116 rfl rfl ?_
      refine g_getS (v := 204) C fX12_63 dX12_measures_117 kd_199 rfl ?_
      refine g_aload_n (q := 0) C dX12_measures_120 rfl rfl ?_
      refine g_aload_n (q := 0) C dX12_measures_121 rfl rfl ?_
      refine g_getI C fX12_115 (by decide) dX12_measures_122 kd_199 ?_
      refine g_iload_n (q := 1) C dX12_measures_125 rfl rfl ?_
      refine g_iload_n (q := 3) C dX12_measures_126 rfl rfl ?_
      refine g_cVi (As := [vI (M2 199 34), vI v1, vI v3]) C clX12_361 clvX12_at dX12_measures_127 kd_199 rfl (Nat.le_of_ble_eq_true rfl) rfl (by decide) (t_X12_at (Cx.ok C) h) (fun r6 M5 h => ?_)
      obtain ⟨g7, h⟩ := h
      refine g_iald C dX12_measures_130 kd_204 ln_204 g7 ?_
      refine g_iadd C dX12_measures_131 ?_
      refine g_istore (lv' := [(4, vI ((M2 204 r3) + (M5 204 r6))), (0, vR Y 199), (1, vI v1), (2, vI v2), (3, vI v3)]) C dX12_measures_132 (by decide) rfl ?_
      refine g_iload (q := 0) C dX12_measures_134 rfl ?_
      refine g_aload_n (q := 1) C dX12_measures_136 rfl rfl ?_
      refine g_getS (v := 204) C fX12_63 dX12_measures_137 kd_199 rfl ?_
      refine g_aload_n (q := 1) C dX12_measures_140 rfl rfl ?_
      refine g_aload_n (q := 1) C dX12_measures_141 rfl rfl ?_
      refine g_getI C fX12_115 (by decide) dX12_measures_142 kd_199 ?_
      refine g_iload_n (q := 3) C dX12_measures_145 rfl rfl ?_
      refine g_iload_n (q := 4) C dX12_measures_146 rfl rfl ?_
      refine g_cVi (As := [vI (M5 199 34), vI v2, vI v3]) C clX12_361 clvX12_at dX12_measures_147 kd_199 rfl (Nat.le_of_ble_eq_true rfl) rfl (by decide) (t_X12_at (Cx.ok C) h) (fun r9 M8 h => ?_)
      obtain ⟨g10, h⟩ := h
      refine g_iald C dX12_measures_150 kd_204 ln_204 g10 ?_
      obtain ⟨g11, h⟩ := h
      obtain ⟨g12, h⟩ := h
      obtain ⟨ht, hf⟩ := h
      refine g_icmp_ge (tgt := 171) C dX12_measures_151 (by decide) g11 g12 (fun c => ?_) (fun c => ?_)
      · have h := ht c
        refine G.sub [1, 2, 3, 4] rfl ?_
        exact w_X12_measures_J171 C hR (hk79) (hk87) (ih)  h
      · have h := hf c
        refine g_aload_n (q := 1) C dX12_measures_154 rfl rfl ?_
        refine g_getS (v := 204) C fX12_63 dX12_measures_155 kd_199 rfl ?_
        refine g_aload_n (q := 1) C dX12_measures_158 rfl rfl ?_
        refine g_aload_n (q := 1) C dX12_measures_159 rfl rfl ?_
        refine g_getI C fX12_115 (by decide) dX12_measures_160 kd_199 ?_
        refine g_iload_n (q := 3) C dX12_measures_163 rfl rfl ?_
        refine g_iload_n (q := 4) C dX12_measures_164 rfl rfl ?_
        refine g_cVi (As := [vI (M8 199 34), vI v2, vI v3]) C clX12_361 clvX12_at dX12_measures_165 kd_199 rfl (Nat.le_of_ble_eq_true rfl) rfl (by decide) (t_X12_at (Cx.ok C) h) (fun r14 M13 h => ?_)
        refine g_iload (q := 0) C dX12_measures_168 rfl ?_
        obtain ⟨g15, h⟩ := h
        obtain ⟨M16, e_M16⟩ : ∃ z : Mem, z = up M13 204 r14 ((M2 204 r3) + (M5 204 r6)) := ⟨_, rfl⟩
        have h := h M16 e_M16
        refine g_iast C dX12_measures_170 kd_204 ln_204 g15 e_M16 ?_
        refine G.sub [1, 2, 3, 4] rfl ?_
        exact w_X12_measures_J171 C hR (hk79) (hk87) (ih)  h
set_option maxRecDepth 20000 in
theorem w_X12_measures_L87 {Y : YT} {X : CX} (C : Cx Y X cX12_measures 5 RX12 2) {Q : Mem → Prop} (hR : Rt Y X none (PQv Y Q)) {v1 : Int} {k79 : Int → Mem → Prop} (hk79 : ∀ (v1 : Int)  (M : Mem), k79 v1 M → G Y X 5 79 [(0, vR Y 199), (1, vI v1)] ([]) M) : ∀ (f : Nat) (v2 : Int) (M : Mem), m_X12_measures_L87 k79 Q v1 f v2 M → G Y X 5 87 [(0, vR Y 199), (1, vI v1), (2, vI v2)] ([]) M := by
  intro f
  induction f with
  | zero =>
    intro v2 M h
    exact (show False from h).elim
  | succ f ih =>
    intro v2 M h
    unfold m_X12_measures_L87 at h
    refine g_iload_n (q := 2) C dX12_measures_87 rfl rfl ?_
    refine g_bipush (v := 7) C dX12_measures_88 (by decide +kernel) ?_
    obtain ⟨g17, h⟩ := h
    obtain ⟨ht, hf⟩ := h
    refine g_icmp_ge (tgt := 183) C dX12_measures_90 (by decide) g17 (by decide) (fun c => ?_) (fun c => ?_)
    · have h := ht c
      refine g_iinc (q := 1) (v := v1 + 1) (lv' := [(1, vI (v1 + 1)), (0, vR Y 199), (2, vI v2)]) C dX12_measures_183 rfl rfl (by decide) rfl ?_
      refine g_goto (tgt := 79) C dX12_measures_186 (by decide) ?_
      refine G.sub [1, 0] rfl ?_
      exact hk79 _ _ h
    · have h := hf c
      refine g_iconst C dX12_measures_93 rfl ?_
      refine g_istore_n (lv' := [(3, vI 0), (0, vR Y 199), (1, vI v1), (2, vI v2)]) C dX12_measures_94 rfl (by decide) rfl ?_
      obtain ⟨f0, h⟩ := h
      refine G.sub [1, 2, 3, 0] rfl ?_
      exact w_X12_measures_L95 C hR (hk79) (ih)  f0 _ _ h
set_option maxRecDepth 20000 in
theorem w_X12_measures_L79 {Y : YT} {X : CX} (C : Cx Y X cX12_measures 5 RX12 2) {Q : Mem → Prop} (hR : Rt Y X none (PQv Y Q))   : ∀ (f : Nat) (v1 : Int) (M : Mem), m_X12_measures_L79  Q f v1 M → G Y X 5 79 [(0, vR Y 199), (1, vI v1)] ([]) M := by
  intro f
  induction f with
  | zero =>
    intro v1 M h
    exact (show False from h).elim
  | succ f ih =>
    intro v1 M h
    unfold m_X12_measures_L79 at h
    refine g_iload_n (q := 1) C dX12_measures_79 rfl rfl ?_
    refine g_bipush (v := 7) C dX12_measures_80 (by decide +kernel) ?_
    obtain ⟨g18, h⟩ := h
    obtain ⟨ht, hf⟩ := h
    refine g_icmp_ge (tgt := 189) C dX12_measures_82 (by decide) g18 (by decide) (fun c => ?_) (fun c => ?_)
    · have h := ht c
      exact g_retv C hR dX12_measures_189 h
    · have h := hf c
      refine g_iconst C dX12_measures_85 rfl ?_
      refine g_istore_n (lv' := [(2, vI 0), (0, vR Y 199), (1, vI v1)]) C dX12_measures_86 rfl (by decide) rfl ?_
      obtain ⟨f0, h⟩ := h
      refine G.sub [1, 2, 0] rfl ?_
      exact w_X12_measures_L87 C hR (ih)  f0 _ _ h
set_option maxRecDepth 20000 in
theorem w_X12_measures_J64 {Y : YT} {X : CX} (C : Cx Y X cX12_measures 5 RX12 2) {Q : Mem → Prop} (hR : Rt Y X none (PQv Y Q)) {v1 : Int} {v2 : Int} {s0 : Int} {s1 : Int} {s2 : Int} {k2 : Int → Mem → Prop} (hk2 : ∀ (v1 : Int)  (M : Mem), k2 v1 M → G Y X 5 2 [(0, vR Y 199), (1, vI v1)] ([]) M) {k10 : Int → Mem → Prop} (hk10 : ∀ (v2 : Int)  (M : Mem), k10 v2 M → G Y X 5 10 [(0, vR Y 199), (1, vI v1), (2, vI v2)] ([]) M) {M : Mem} (hk_s0 : kd s0 = 20) (h : m_X12_measures_J64 k2 k10 Q v1 v2 s0 s1 s2 M) : G Y X 5 64 [(0, vR Y 199), (1, vI v1), (2, vI v2)] ((vI s2) :: (vI s1) :: (vR Y s0) :: []) M := by
  unfold m_X12_measures_J64 at h
  obtain ⟨g19, h⟩ := h
  obtain ⟨M20, e_M20⟩ : ∃ z : Mem, z = up M s0 s1 s2 := ⟨_, rfl⟩
  have h := h M20 e_M20
  refine g_iast C dX12_measures_64 hk_s0 rfl g19 e_M20 ?_
  refine g_iinc (q := 2) (v := v2 + 1) (lv' := [(2, vI (v2 + 1)), (0, vR Y 199), (1, vI v1)]) C dX12_measures_65 rfl rfl (by decide) rfl ?_
  refine g_goto (tgt := 10) C dX12_measures_68 (by decide) ?_
  refine G.sub [1, 2, 0] rfl ?_
  exact hk10 _ _ h
set_option maxRecDepth 20000 in
theorem w_X12_measures_L10 {Y : YT} {X : CX} (C : Cx Y X cX12_measures 5 RX12 2) {Q : Mem → Prop} (hR : Rt Y X none (PQv Y Q)) {v1 : Int} {k2 : Int → Mem → Prop} (hk2 : ∀ (v1 : Int)  (M : Mem), k2 v1 M → G Y X 5 2 [(0, vR Y 199), (1, vI v1)] ([]) M) : ∀ (f : Nat) (v2 : Int) (M : Mem), m_X12_measures_L10 k2 Q v1 f v2 M → G Y X 5 10 [(0, vR Y 199), (1, vI v1), (2, vI v2)] ([]) M := by
  intro f
  induction f with
  | zero =>
    intro v2 M h
    exact (show False from h).elim
  | succ f ih =>
    intro v2 M h
    unfold m_X12_measures_L10 at h
    refine g_iload_n (q := 2) C dX12_measures_10 rfl rfl ?_
    refine g_bipush (v := 7) C dX12_measures_11 (by decide +kernel) ?_
    obtain ⟨g21, h⟩ := h
    obtain ⟨ht, hf⟩ := h
    refine g_icmp_ge (tgt := 71) C dX12_measures_13 (by decide) g21 (by decide) (fun c => ?_) (fun c => ?_)
    · have h := ht c
      refine g_iinc (q := 1) (v := v1 + 1) (lv' := [(1, vI (v1 + 1)), (0, vR Y 199), (2, vI v2)]) C dX12_measures_71 rfl rfl (by decide) rfl ?_
      refine g_goto (tgt := 2) C dX12_measures_74 (by decide) ?_
      refine G.sub [1, 0] rfl ?_
      exact hk2 _ _ h
    · have h := hf c
      refine g_aload_n (q := 0) C dX12_measures_16 rfl rfl ?_
      refine g_getS (v := 204) C fX12_63 dX12_measures_17 kd_199 rfl ?_
      refine g_aload_n (q := 0) C dX12_measures_20 rfl rfl ?_
      refine g_aload_n (q := 0) C dX12_measures_21 rfl rfl ?_
      refine g_getI C fX12_115 (by decide) dX12_measures_22 kd_199 ?_
      refine g_iload_n (q := 1) C dX12_measures_25 rfl rfl ?_
      refine g_iload_n (q := 2) C dX12_measures_26 rfl rfl ?_
      refine g_cVi (As := [vI (M 199 34), vI v1, vI v2]) C clX12_361 clvX12_at dX12_measures_27 kd_199 rfl (Nat.le_of_ble_eq_true rfl) rfl (by decide) (t_X12_at (Cx.ok C) h) (fun r23 M22 h => ?_)
      refine g_iload_n (q := 1) C dX12_measures_30 rfl rfl ?_
      refine g_iload_n (q := 2) C dX12_measures_31 rfl rfl ?_
      obtain ⟨g24, h⟩ := h
      obtain ⟨g25, h⟩ := h
      obtain ⟨ht, hf⟩ := h
      refine g_icmp_ne (tgt := 39) C dX12_measures_32 (by decide) g24 g25 (fun c => ?_) (fun c => ?_)
      · have h := hf c
        refine g_aload_n (q := 0) C dX12_measures_39 rfl rfl ?_
        refine g_getS (v := 203) C fX12_60 dX12_measures_40 kd_199 rfl ?_
        refine g_aload_n (q := 0) C dX12_measures_43 rfl rfl ?_
        refine g_aload_n (q := 0) C dX12_measures_44 rfl rfl ?_
        refine g_getI C fX12_115 (by decide) dX12_measures_45 kd_199 ?_
        refine g_iload_n (q := 1) C dX12_measures_48 rfl rfl ?_
        refine g_iload_n (q := 2) C dX12_measures_49 rfl rfl ?_
        refine g_cVi (As := [vI (M22 199 34), vI v1, vI v2]) C clX12_361 clvX12_at dX12_measures_50 kd_199 rfl (Nat.le_of_ble_eq_true rfl) rfl (by decide) (t_X12_at (Cx.ok C) h) (fun r27 M26 h => ?_)
        obtain ⟨g28, h⟩ := h
        refine g_iald C dX12_measures_53 kd_203 ln_203 g28 ?_
        obtain ⟨g29, h⟩ := h
        obtain ⟨ht, hf⟩ := h
        refine g_if_le (tgt := 61) C dX12_measures_54 (by decide) g29 (fun c => ?_) (fun c => ?_)
        · have h := ht c
          refine g_ldcw (v := 100000000) C dX12_measures_61 kX12_395 (by decide +kernel) ?_
          refine G.sub [0, 1, 2] rfl ?_
          exact w_X12_measures_J64 C hR (hk2) (ih) kd_204 h
        · have h := hf c
          refine g_iconst C dX12_measures_57 rfl ?_
          refine g_goto (tgt := 64) C dX12_measures_58 (by decide) ?_
          refine G.sub [0, 1, 2] rfl ?_
          exact w_X12_measures_J64 C hR (hk2) (ih) kd_204 h
      · have h := ht c
        refine g_iconst C dX12_measures_35 rfl ?_
        refine g_goto (tgt := 64) C dX12_measures_36 (by decide) ?_
        refine G.sub [0, 1, 2] rfl ?_
        exact w_X12_measures_J64 C hR (hk2) (ih) kd_204 h
set_option maxRecDepth 20000 in
theorem w_X12_measures_L2 {Y : YT} {X : CX} (C : Cx Y X cX12_measures 5 RX12 2) {Q : Mem → Prop} (hR : Rt Y X none (PQv Y Q))   : ∀ (f : Nat) (v1 : Int) (M : Mem), m_X12_measures_L2  Q f v1 M → G Y X 5 2 [(0, vR Y 199), (1, vI v1)] ([]) M := by
  intro f
  induction f with
  | zero =>
    intro v1 M h
    exact (show False from h).elim
  | succ f ih =>
    intro v1 M h
    unfold m_X12_measures_L2 at h
    refine g_iload_n (q := 1) C dX12_measures_2 rfl rfl ?_
    refine g_bipush (v := 7) C dX12_measures_3 (by decide +kernel) ?_
    obtain ⟨g30, h⟩ := h
    obtain ⟨ht, hf⟩ := h
    refine g_icmp_ge (tgt := 77) C dX12_measures_5 (by decide) g30 (by decide) (fun c => ?_) (fun c => ?_)
    · have h := ht c
      refine g_iconst C dX12_measures_77 rfl ?_
      refine g_istore_n (lv' := [(1, vI 0), (0, vR Y 199)]) C dX12_measures_78 rfl (by decide) rfl ?_
      obtain ⟨f0, h⟩ := h
      refine G.sub [1, 0] rfl ?_
      exact w_X12_measures_L79 C hR  f0 _ _ h
    · have h := hf c
      refine g_iconst C dX12_measures_8 rfl ?_
      refine g_istore_n (lv' := [(2, vI 0), (0, vR Y 199), (1, vI v1)]) C dX12_measures_9 rfl (by decide) rfl ?_
      obtain ⟨f0, h⟩ := h
      refine G.sub [1, 2, 0] rfl ?_
      exact w_X12_measures_L10 C hR (ih)  f0 _ _ h
set_option maxRecDepth 20000 in
theorem t_X12_measures {l : Launch} {Y : YT} (hY : YOK Y) {M : Mem} {Q : Mem → Prop} (h : m_X12_measures  M Q) : Ctr l Y yX12_measures cX12_measures 5 none 2 [vR Y 199] M (PQv Y Q) := by
  unfold m_X12_measures at h
  refine ctr_ofF hY (by decide +kernel) (Nat.le_of_ble_eq_true rfl) [(0, vR Y 199)] rfl (fun X hX C hR => ?_)
  refine g_iconst C dX12_measures_0 rfl ?_
  refine g_istore_n (lv' := [(1, vI 0), (0, vR Y 199)]) C dX12_measures_1 rfl (by decide) rfl ?_
  obtain ⟨f0, h⟩ := h
  refine G.sub [1, 0] rfl ?_
  exact w_X12_measures_L2 C hR  f0 _ _ h
set_option maxRecDepth 20000 in
theorem w_X12_begin_L73 {Y : YT} {X : CX} (C : Cx Y X cX12_begin 2 RX12 1) {Q : Mem → Prop} (hR : Rt Y X none (PQv Y Q))   : ∀ (f : Nat) (v1 : Int) (M : Mem), m_X12_begin_L73  Q f v1 M → G Y X 2 73 [(0, vR Y 199), (1, vI v1)] ([]) M := by
  intro f
  induction f with
  | zero =>
    intro v1 M h
    exact (show False from h).elim
  | succ f ih =>
    intro v1 M h
    unfold m_X12_begin_L73 at h
    refine g_iload_n (q := 1) C dX12_begin_73 rfl rfl ?_
    refine g_bipush (v := 8) C dX12_begin_74 (by decide +kernel) ?_
    obtain ⟨g1, h⟩ := h
    obtain ⟨ht, hf⟩ := h
    refine g_icmp_ge (tgt := 155) C dX12_begin_76 (by decide) g1 (by decide) (fun c => ?_) (fun c => ?_)
    · have h := ht c
      refine g_aload_n (q := 0) C dX12_begin_155 rfl rfl ?_
      refine g_getS (v := 232) C fX12_171 dX12_begin_156 kd_199 rfl ?_
      refine g_iconst C dX12_begin_159 rfl ?_
      refine g_iconst C dX12_begin_160 rfl ?_
      obtain ⟨M2, e_M2⟩ : ∃ z : Mem, z = up M 232 0 0 := ⟨_, rfl⟩
      have h := h M2 e_M2
      refine g_iast C dX12_begin_161 kd_232 ln_232 (by decide) e_M2 ?_
      refine g_aload_n (q := 0) C dX12_begin_162 rfl rfl ?_
      refine g_iconst C dX12_begin_163 rfl ?_
      obtain ⟨M3, e_M3⟩ : ∃ z : Mem, z = up M2 199 55 0 := ⟨_, rfl⟩
      have h := h M3 e_M3
      refine g_putI C fX12_180 pX12_180 dX12_begin_164 kd_199 e_M3 ?_
      refine g_aload_n (q := 0) C dX12_begin_167 rfl rfl ?_
      refine g_iconst C dX12_begin_168 rfl ?_
      obtain ⟨M4, e_M4⟩ : ∃ z : Mem, z = up M3 199 60 0 := ⟨_, rfl⟩
      have h := h M4 e_M4
      refine g_putI C fX12_195 pX12_195 dX12_begin_169 kd_199 e_M4 ?_
      exact g_retv C hR dX12_begin_172 h
    · have h := hf c
      refine g_aload_n (q := 0) C dX12_begin_79 rfl rfl ?_
      refine g_getS (v := 231) C fX12_168 dX12_begin_80 kd_199 rfl ?_
      refine g_iconst C dX12_begin_83 rfl ?_
      refine g_iload_n (q := 1) C dX12_begin_84 rfl rfl ?_
      refine g_imul C dX12_begin_85 ?_
      refine g_aload_n (q := 0) C dX12_begin_86 rfl rfl ?_
      refine g_getS (v := 210) C fX12_81 dX12_begin_87 kd_199 rfl ?_
      refine g_bipush (v := 8) C dX12_begin_90 (by decide +kernel) ?_
      refine g_aload_n (q := 0) C dX12_begin_92 rfl rfl ?_
      refine g_getI C fX12_51 (by decide) dX12_begin_93 kd_199 ?_
      refine g_imul C dX12_begin_96 ?_
      refine g_iload_n (q := 1) C dX12_begin_97 rfl rfl ?_
      refine g_iadd C dX12_begin_98 ?_
      obtain ⟨g5, h⟩ := h
      refine g_iald C dX12_begin_99 kd_210 ln_210 g5 ?_
      obtain ⟨g6, h⟩ := h
      obtain ⟨M7, e_M7⟩ : ∃ z : Mem, z = up M 231 (3 * v1) (M 210 ((8 * (M 199 13)) + v1)) := ⟨_, rfl⟩
      have h := h M7 e_M7
      refine g_iast C dX12_begin_100 kd_231 ln_231 g6 e_M7 ?_
      refine g_aload_n (q := 0) C dX12_begin_101 rfl rfl ?_
      refine g_getS (v := 231) C fX12_168 dX12_begin_102 kd_199 rfl ?_
      refine g_iconst C dX12_begin_105 rfl ?_
      refine g_iload_n (q := 1) C dX12_begin_106 rfl rfl ?_
      refine g_imul C dX12_begin_107 ?_
      refine g_iconst C dX12_begin_108 rfl ?_
      refine g_iadd C dX12_begin_109 ?_
      refine g_aload_n (q := 0) C dX12_begin_110 rfl rfl ?_
      refine g_getS (v := 211) C fX12_84 dX12_begin_111 kd_199 rfl ?_
      refine g_bipush (v := 8) C dX12_begin_114 (by decide +kernel) ?_
      refine g_aload_n (q := 0) C dX12_begin_116 rfl rfl ?_
      refine g_getI C fX12_51 (by decide) dX12_begin_117 kd_199 ?_
      refine g_imul C dX12_begin_120 ?_
      refine g_iload_n (q := 1) C dX12_begin_121 rfl rfl ?_
      refine g_iadd C dX12_begin_122 ?_
      obtain ⟨g8, h⟩ := h
      refine g_iald C dX12_begin_123 kd_211 ln_211 g8 ?_
      obtain ⟨g9, h⟩ := h
      obtain ⟨M10, e_M10⟩ : ∃ z : Mem, z = up M7 231 ((3 * v1) + 1) (M7 211 ((8 * (M7 199 13)) + v1)) := ⟨_, rfl⟩
      have h := h M10 e_M10
      refine g_iast C dX12_begin_124 kd_231 ln_231 g9 e_M10 ?_
      refine g_aload_n (q := 0) C dX12_begin_125 rfl rfl ?_
      refine g_getS (v := 231) C fX12_168 dX12_begin_126 kd_199 rfl ?_
      refine g_iconst C dX12_begin_129 rfl ?_
      refine g_iload_n (q := 1) C dX12_begin_130 rfl rfl ?_
      refine g_imul C dX12_begin_131 ?_
      refine g_iconst C dX12_begin_132 rfl ?_
      refine g_iadd C dX12_begin_133 ?_
      refine g_aload_n (q := 0) C dX12_begin_134 rfl rfl ?_
      refine g_getS (v := 212) C fX12_87 dX12_begin_135 kd_199 rfl ?_
      refine g_bipush (v := 8) C dX12_begin_138 (by decide +kernel) ?_
      refine g_aload_n (q := 0) C dX12_begin_140 rfl rfl ?_
      refine g_getI C fX12_51 (by decide) dX12_begin_141 kd_199 ?_
      refine g_imul C dX12_begin_144 ?_
      refine g_iload_n (q := 1) C dX12_begin_145 rfl rfl ?_
      refine g_iadd C dX12_begin_146 ?_
      obtain ⟨g11, h⟩ := h
      refine g_iald C dX12_begin_147 kd_212 ln_212 g11 ?_
      obtain ⟨g12, h⟩ := h
      obtain ⟨M13, e_M13⟩ : ∃ z : Mem, z = up M10 231 ((3 * v1) + 2) (M10 212 ((8 * (M10 199 13)) + v1)) := ⟨_, rfl⟩
      have h := h M13 e_M13
      refine g_iast C dX12_begin_148 kd_231 ln_231 g12 e_M13 ?_
      refine g_iinc (q := 1) (v := v1 + 1) (lv' := [(1, vI (v1 + 1)), (0, vR Y 199)]) C dX12_begin_149 rfl rfl (by decide) rfl ?_
      refine g_goto (tgt := 73) C dX12_begin_152 (by decide) ?_
      refine G.sub [1, 0] rfl ?_
      exact ih _ _ h
set_option maxRecDepth 20000 in
theorem w_X12_begin_L24 {Y : YT} {X : CX} (C : Cx Y X cX12_begin 2 RX12 1) {Q : Mem → Prop} (hR : Rt Y X none (PQv Y Q))   : ∀ (f : Nat) (v1 : Int) (M : Mem), m_X12_begin_L24  Q f v1 M → G Y X 2 24 [(0, vR Y 199), (1, vI v1)] ([]) M := by
  intro f
  induction f with
  | zero =>
    intro v1 M h
    exact (show False from h).elim
  | succ f ih =>
    intro v1 M h
    unfold m_X12_begin_L24 at h
    refine g_iload_n (q := 1) C dX12_begin_24 rfl rfl ?_
    refine g_bipush (v := 6) C dX12_begin_25 (by decide +kernel) ?_
    obtain ⟨g14, h⟩ := h
    obtain ⟨ht, hf⟩ := h
    refine g_icmp_ge (tgt := 56) C dX12_begin_27 (by decide) g14 (by decide) (fun c => ?_) (fun c => ?_)
    · have h := ht c
      refine g_aload_n (q := 0) C dX12_begin_56 rfl rfl ?_
      refine g_getS (v := 230) C fX12_165 dX12_begin_57 kd_199 rfl ?_
      refine g_iconst C dX12_begin_60 rfl ?_
      refine g_aload_n (q := 0) C dX12_begin_61 rfl rfl ?_
      refine g_getS (v := 209) C fX12_78 dX12_begin_62 kd_199 rfl ?_
      refine g_aload_n (q := 0) C dX12_begin_65 rfl rfl ?_
      refine g_getI C fX12_51 (by decide) dX12_begin_66 kd_199 ?_
      obtain ⟨g15, h⟩ := h
      refine g_iald C dX12_begin_69 kd_209 ln_209 g15 ?_
      obtain ⟨M16, e_M16⟩ : ∃ z : Mem, z = up M 230 0 (M 209 (M 199 13)) := ⟨_, rfl⟩
      have h := h M16 e_M16
      refine g_iast C dX12_begin_70 kd_230 ln_230 (by decide) e_M16 ?_
      refine g_iconst C dX12_begin_71 rfl ?_
      refine g_istore_n (lv' := [(1, vI 0), (0, vR Y 199)]) C dX12_begin_72 rfl (by decide) rfl ?_
      obtain ⟨f0, h⟩ := h
      refine G.sub [1, 0] rfl ?_
      exact w_X12_begin_L73 C hR  f0 _ _ h
    · have h := hf c
      refine g_aload_n (q := 0) C dX12_begin_30 rfl rfl ?_
      refine g_getS (v := 228) C fX12_159 dX12_begin_31 kd_199 rfl ?_
      refine g_iload_n (q := 1) C dX12_begin_34 rfl rfl ?_
      refine g_aload_n (q := 0) C dX12_begin_35 rfl rfl ?_
      refine g_getS (v := 206) C fX12_69 dX12_begin_36 kd_199 rfl ?_
      refine g_bipush (v := 6) C dX12_begin_39 (by decide +kernel) ?_
      refine g_aload_n (q := 0) C dX12_begin_41 rfl rfl ?_
      refine g_getI C fX12_51 (by decide) dX12_begin_42 kd_199 ?_
      refine g_imul C dX12_begin_45 ?_
      refine g_iload_n (q := 1) C dX12_begin_46 rfl rfl ?_
      refine g_iadd C dX12_begin_47 ?_
      obtain ⟨g17, h⟩ := h
      refine g_iald C dX12_begin_48 kd_206 ln_206 g17 ?_
      obtain ⟨g18, h⟩ := h
      obtain ⟨M19, e_M19⟩ : ∃ z : Mem, z = up M 228 v1 (M 206 ((6 * (M 199 13)) + v1)) := ⟨_, rfl⟩
      have h := h M19 e_M19
      refine g_iast C dX12_begin_49 kd_228 ln_228 g18 e_M19 ?_
      refine g_iinc (q := 1) (v := v1 + 1) (lv' := [(1, vI (v1 + 1)), (0, vR Y 199)]) C dX12_begin_50 rfl rfl (by decide) rfl ?_
      refine g_goto (tgt := 24) C dX12_begin_53 (by decide) ?_
      refine G.sub [1, 0] rfl ?_
      exact ih _ _ h
set_option maxRecDepth 20000 in
theorem t_X12_begin {l : Launch} {Y : YT} (hY : YOK Y) {M : Mem} {Q : Mem → Prop} (h : m_X12_begin  M Q) : Ctr l Y yX12_begin cX12_begin 2 none 1 [vR Y 199] M (PQv Y Q) := by
  unfold m_X12_begin at h
  refine ctr_ofF hY (by decide +kernel) (Nat.le_of_ble_eq_true rfl) [(0, vR Y 199)] rfl (fun X hX C hR => ?_)
  refine g_aload_n (q := 0) C dX12_begin_0 rfl rfl ?_
  refine g_getS (v := 227) C fX12_156 dX12_begin_1 kd_199 rfl ?_
  refine g_iconst C dX12_begin_4 rfl ?_
  refine g_iconst C dX12_begin_5 rfl ?_
  obtain ⟨M20, e_M20⟩ : ∃ z : Mem, z = up M 227 0 0 := ⟨_, rfl⟩
  have h := h M20 e_M20
  refine g_iast C dX12_begin_6 kd_227 ln_227 (by decide) e_M20 ?_
  refine g_aload_n (q := 0) C dX12_begin_7 rfl rfl ?_
  refine g_getS (v := 229) C fX12_162 dX12_begin_8 kd_199 rfl ?_
  refine g_iconst C dX12_begin_11 rfl ?_
  refine g_aload_n (q := 0) C dX12_begin_12 rfl rfl ?_
  refine g_getS (v := 208) C fX12_75 dX12_begin_13 kd_199 rfl ?_
  refine g_aload_n (q := 0) C dX12_begin_16 rfl rfl ?_
  refine g_getI C fX12_51 (by decide) dX12_begin_17 kd_199 ?_
  obtain ⟨g21, h⟩ := h
  refine g_iald C dX12_begin_20 kd_208 ln_208 g21 ?_
  obtain ⟨M22, e_M22⟩ : ∃ z : Mem, z = up M20 229 0 (M20 208 (M20 199 13)) := ⟨_, rfl⟩
  have h := h M22 e_M22
  refine g_iast C dX12_begin_21 kd_229 ln_229 (by decide) e_M22 ?_
  refine g_iconst C dX12_begin_22 rfl ?_
  refine g_istore_n (lv' := [(1, vI 0), (0, vR Y 199)]) C dX12_begin_23 rfl (by decide) rfl ?_
  obtain ⟨f0, h⟩ := h
  refine G.sub [1, 0] rfl ?_
  exact w_X12_begin_L24 C hR  f0 _ _ h
set_option maxRecDepth 20000 in
theorem w_X12_town_J208 {Y : YT} {X : CX} (C : Cx Y X cX12_town 3 RX12 8) {Q : Int → Mem → Prop} (hR : Rt Y X (some .int) (PQi Y Q)) {v1 : Int}  {M : Mem}  (h : m_X12_town_J208  Q v1 M) : G Y X 3 208 [(0, vR Y 199), (1, vI v1)] ([]) M := by
  unfold m_X12_town_J208 at h
  refine g_aload_n (q := 0) C dX12_town_208 rfl rfl ?_
  refine g_aload_n (q := 0) C dX12_town_209 rfl rfl ?_
  refine g_getI C fX12_36 (by decide) dX12_town_210 kd_199 ?_
  obtain ⟨M1, e_M1⟩ : ∃ z : Mem, z = up M 199 10 (M 199 8) := ⟨_, rfl⟩
  have h := h M1 e_M1
  refine g_putI C fX12_42 pX12_42 dX12_town_213 kd_199 e_M1 ?_
  refine g_aload_n (q := 0) C dX12_town_216 rfl rfl ?_
  refine g_aload_n (q := 0) C dX12_town_217 rfl rfl ?_
  refine g_getI C fX12_39 (by decide) dX12_town_218 kd_199 ?_
  obtain ⟨M2, e_M2⟩ : ∃ z : Mem, z = up M1 199 11 (M1 199 9) := ⟨_, rfl⟩
  have h := h M2 e_M2
  refine g_putI C fX12_45 pX12_45 dX12_town_221 kd_199 e_M2 ?_
  refine g_aload_n (q := 0) C dX12_town_224 rfl rfl ?_
  refine g_getI C fX12_36 (by decide) dX12_town_225 kd_199 ?_
  obtain ⟨g3, h⟩ := h
  obtain ⟨ht, hf⟩ := h
  refine g_if_le (tgt := 237) C dX12_town_228 (by decide) g3 (fun c => ?_) (fun c => ?_)
  · have h := ht c
    refine g_aload_n (q := 0) C dX12_town_237 rfl rfl ?_
    refine g_cVv (As := []) C clX12_402 clvX12_measures dX12_town_238 kd_199 rfl (Nat.le_of_ble_eq_true rfl) rfl (by decide) (t_X12_measures (Cx.ok C) h) (fun M4 h => ?_)
    refine g_aload_n (q := 0) C dX12_town_241 rfl rfl ?_
    refine g_aload_n (q := 0) C dX12_town_242 rfl rfl ?_
    refine g_getI C fX12_115 (by decide) dX12_town_243 kd_199 ?_
    obtain ⟨M5, e_M5⟩ : ∃ z : Mem, z = up M4 199 13 (M4 199 34) := ⟨_, rfl⟩
    have h := h M5 e_M5
    refine g_putI C fX12_51 pX12_51 dX12_town_246 kd_199 e_M5 ?_
    refine g_aload_n (q := 0) C dX12_town_249 rfl rfl ?_
    refine g_cVv (As := []) C clX12_405 clvX12_begin dX12_town_250 kd_199 rfl (Nat.le_of_ble_eq_true rfl) rfl (by decide) (t_X12_begin (Cx.ok C) h) (fun M6 h => ?_)
    refine g_iload_n (q := 1) C dX12_town_253 rfl rfl ?_
    exact g_reti C hR dX12_town_254 h
  · have h := hf c
    refine g_aload_n (q := 0) C dX12_town_231 rfl rfl ?_
    refine g_iconst C dX12_town_232 rfl ?_
    refine g_cVi (As := [vI 1]) C clX12_216 clvX12_refuses dX12_town_233 kd_199 rfl (Nat.le_of_ble_eq_true rfl) rfl (by decide) (t_X12_refuses (Cx.ok C) h) (fun r8 M7 h => ?_)
    exact g_reti C hR dX12_town_236 h
set_option maxRecDepth 20000 in
theorem w_X12_town_L179 {Y : YT} {X : CX} (C : Cx Y X cX12_town 3 RX12 8) {Q : Int → Mem → Prop} (hR : Rt Y X (some .int) (PQi Y Q))   : ∀ (f : Nat) (v1 : Int) (M : Mem), m_X12_town_L179  Q f v1 M → G Y X 3 179 [(0, vR Y 199), (1, vI v1)] ([]) M := by
  intro f
  induction f with
  | zero =>
    intro v1 M h
    exact (show False from h).elim
  | succ f ih =>
    intro v1 M h
    unfold m_X12_town_L179 at h
    refine g_aload_n (q := 0) C dX12_town_179 rfl rfl ?_
    refine g_getI C fX12_36 (by decide) dX12_town_180 kd_199 ?_
    obtain ⟨g9, h⟩ := h
    obtain ⟨ht, hf⟩ := h
    refine g_if_ne (tgt := 208) C dX12_town_183 (by decide) g9 (fun c => ?_) (fun c => ?_)
    · have h := hf c
      refine G.sub [0, 1] rfl ?_
      exact w_X12_town_J208 C hR  h
    · have h := ht c
      refine g_aload_n (q := 0) C dX12_town_186 rfl rfl ?_
      refine g_getI C fX12_20 (by decide) dX12_town_187 kd_199 ?_
      obtain ⟨g10, h⟩ := h
      obtain ⟨ht, hf⟩ := h
      refine g_if_eq (tgt := 208) C dX12_town_190 (by decide) g10 (fun c => ?_) (fun c => ?_)
      · have h := ht c
        refine G.sub [0, 1] rfl ?_
        exact w_X12_town_J208 C hR  h
      · have h := hf c
        refine g_aload_n (q := 0) C dX12_town_193 rfl rfl ?_
        refine g_cVv (As := []) C clX12_396 clvX12_statement dX12_town_194 kd_199 rfl (Nat.le_of_ble_eq_true rfl) rfl (by decide) (t_X12_statement (Cx.ok C) h) (fun M11 h => ?_)
        refine g_iinc (q := 1) (v := v1 + 1) (lv' := [(1, vI (v1 + 1)), (0, vR Y 199)]) C dX12_town_197 rfl rfl (by decide) rfl ?_
        refine g_aload_n (q := 1) C dX12_town_200 rfl rfl ?_
        refine g_iload_n (q := 0) C dX12_town_201 rfl rfl ?_
        refine g_cVv (As := [vI (v1 + 1)]) C clX12_399 clvX12_finishes dX12_town_202 kd_199 rfl (Nat.le_of_ble_eq_true rfl) rfl (by decide) (t_X12_finishes (Cx.ok C) h) (fun M12 h => ?_)
        refine g_goto (tgt := 179) C dX12_town_205 (by decide) ?_
        refine G.sub [1, 0] rfl ?_
        exact ih _ _ h
set_option maxRecDepth 20000 in
theorem w_X12_town_L134 {Y : YT} {X : CX} (C : Cx Y X cX12_town 3 RX12 8) {Q : Int → Mem → Prop} (hR : Rt Y X (some .int) (PQi Y Q)) {v1 : Int} {k126 : Int → Mem → Prop} (hk126 : ∀ (v1 : Int)  (M : Mem), k126 v1 M → G Y X 3 126 [(0, vR Y 199), (1, vI v1)] ([]) M) : ∀ (f : Nat) (v2 : Int) (M : Mem), m_X12_town_L134 k126 Q v1 f v2 M → G Y X 3 134 [(0, vR Y 199), (1, vI v1), (2, vI v2)] ([]) M := by
  intro f
  induction f with
  | zero =>
    intro v2 M h
    exact (show False from h).elim
  | succ f ih =>
    intro v2 M h
    unfold m_X12_town_L134 at h
    refine g_iload_n (q := 2) C dX12_town_134 rfl rfl ?_
    refine g_bipush (v := 7) C dX12_town_135 (by decide +kernel) ?_
    obtain ⟨g13, h⟩ := h
    obtain ⟨ht, hf⟩ := h
    refine g_icmp_ge (tgt := 162) C dX12_town_137 (by decide) g13 (by decide) (fun c => ?_) (fun c => ?_)
    · have h := ht c
      refine g_iinc (q := 1) (v := v1 + 1) (lv' := [(1, vI (v1 + 1)), (0, vR Y 199), (2, vI v2)]) C dX12_town_162 rfl rfl (by decide) rfl ?_
      refine g_goto (tgt := 126) C dX12_town_165 (by decide) ?_
      refine G.sub [1, 0] rfl ?_
      exact hk126 _ _ h
    · have h := hf c
      refine g_aload_n (q := 0) C dX12_town_140 rfl rfl ?_
      refine g_getS (v := 203) C fX12_60 dX12_town_141 kd_199 rfl ?_
      refine g_aload_n (q := 0) C dX12_town_144 rfl rfl ?_
      refine g_aload_n (q := 0) C dX12_town_145 rfl rfl ?_
      refine g_getI C fX12_115 (by decide) dX12_town_146 kd_199 ?_
      refine g_iload_n (q := 1) C dX12_town_149 rfl rfl ?_
      refine g_iload_n (q := 2) C dX12_town_150 rfl rfl ?_
      refine g_cVi (As := [vI (M 199 34), vI v1, vI v2]) C clX12_361 clvX12_at dX12_town_151 kd_199 rfl (Nat.le_of_ble_eq_true rfl) rfl (by decide) (t_X12_at (Cx.ok C) h) (fun r15 M14 h => ?_)
      refine g_iconst C dX12_town_154 rfl ?_
      obtain ⟨g16, h⟩ := h
      obtain ⟨M17, e_M17⟩ : ∃ z : Mem, z = up M14 203 r15 0 := ⟨_, rfl⟩
      have h := h M17 e_M17
      refine g_iast C dX12_town_155 kd_203 ln_203 g16 e_M17 ?_
      refine g_iinc (q := 2) (v := v2 + 1) (lv' := [(2, vI (v2 + 1)), (0, vR Y 199), (1, vI v1)]) C dX12_town_156 rfl rfl (by decide) rfl ?_
      refine g_goto (tgt := 134) C dX12_town_159 (by decide) ?_
      refine G.sub [1, 2, 0] rfl ?_
      exact ih _ _ h
set_option maxRecDepth 20000 in
theorem w_X12_town_L126 {Y : YT} {X : CX} (C : Cx Y X cX12_town 3 RX12 8) {Q : Int → Mem → Prop} (hR : Rt Y X (some .int) (PQi Y Q))   : ∀ (f : Nat) (v1 : Int) (M : Mem), m_X12_town_L126  Q f v1 M → G Y X 3 126 [(0, vR Y 199), (1, vI v1)] ([]) M := by
  intro f
  induction f with
  | zero =>
    intro v1 M h
    exact (show False from h).elim
  | succ f ih =>
    intro v1 M h
    unfold m_X12_town_L126 at h
    refine g_iload_n (q := 1) C dX12_town_126 rfl rfl ?_
    refine g_bipush (v := 7) C dX12_town_127 (by decide +kernel) ?_
    obtain ⟨g18, h⟩ := h
    obtain ⟨ht, hf⟩ := h
    refine g_icmp_ge (tgt := 168) C dX12_town_129 (by decide) g18 (by decide) (fun c => ?_) (fun c => ?_)
    · have h := ht c
      refine g_aload_n (q := 0) C dX12_town_168 rfl rfl ?_
      refine g_iconst C dX12_town_169 rfl ?_
      obtain ⟨M19, e_M19⟩ : ∃ z : Mem, z = up M 199 33 0 := ⟨_, rfl⟩
      have h := h M19 e_M19
      refine g_putI C fX12_112 pX12_112 dX12_town_170 kd_199 e_M19 ?_
      refine g_iconst C dX12_town_173 rfl ?_
      refine g_istore_n (lv' := [(1, vI 0), (0, vR Y 199)]) C dX12_town_174 rfl (by decide) rfl ?_
      refine g_aload_n (q := 1) C dX12_town_175 rfl rfl ?_
      refine g_cVv (As := []) C clX12_241 clvX12_ahead dX12_town_176 kd_199 rfl (Nat.le_of_ble_eq_true rfl) rfl (by decide) (t_X12_ahead (Cx.ok C) h) (fun M20 h => ?_)
      obtain ⟨f0, h⟩ := h
      refine G.sub [1, 0] rfl ?_
      exact w_X12_town_L179 C hR  f0 _ _ h
    · have h := hf c
      refine g_iconst C dX12_town_132 rfl ?_
      refine g_istore_n (lv' := [(2, vI 0), (0, vR Y 199), (1, vI v1)]) C dX12_town_133 rfl (by decide) rfl ?_
      obtain ⟨f0, h⟩ := h
      refine G.sub [1, 2, 0] rfl ?_
      exact w_X12_town_L134 C hR (ih)  f0 _ _ h
set_option maxRecDepth 20000 in
theorem t_X12_town {l : Launch} {Y : YT} (hY : YOK Y) {M : Mem} {Q : Int → Mem → Prop} (h : m_X12_town  M Q) : Ctr l Y yX12_town cX12_town 3 (some .int) 8 [vR Y 199] M (PQi Y Q) := by
  unfold m_X12_town at h
  refine ctr_ofF hY (by decide +kernel) (Nat.le_of_ble_eq_true rfl) [(0, vR Y 199)] rfl (fun X hX C hR => ?_)
  refine g_aload_n (q := 0) C dX12_town_0 rfl rfl ?_
  refine g_aload_n (q := 0) C dX12_town_1 rfl rfl ?_
  refine g_getI C fX12_13 (by decide) dX12_town_2 kd_199 ?_
  obtain ⟨M21, e_M21⟩ : ∃ z : Mem, z = up M 199 2 (M 199 1) := ⟨_, rfl⟩
  have h := h M21 e_M21
  refine g_putI C fX12_17 pX12_17 dX12_town_5 kd_199 e_M21 ?_
  refine g_aload_n (q := 0) C dX12_town_8 rfl rfl ?_
  refine g_iconst C dX12_town_9 rfl ?_
  obtain ⟨M22, e_M22⟩ : ∃ z : Mem, z = up M21 199 1 0 := ⟨_, rfl⟩
  have h := h M22 e_M22
  refine g_putI C fX12_13 pX12_13 dX12_town_10 kd_199 e_M22 ?_
  refine g_aload_n (q := 0) C dX12_town_13 rfl rfl ?_
  refine g_iconst C dX12_town_14 rfl ?_
  obtain ⟨M23, e_M23⟩ : ∃ z : Mem, z = up M22 199 5 0 := ⟨_, rfl⟩
  have h := h M23 e_M23
  refine g_putI C fX12_26 pX12_26 dX12_town_15 kd_199 e_M23 ?_
  refine g_aload_n (q := 0) C dX12_town_18 rfl rfl ?_
  refine g_iconst C dX12_town_19 rfl ?_
  obtain ⟨M24, e_M24⟩ : ∃ z : Mem, z = up M23 199 8 0 := ⟨_, rfl⟩
  have h := h M24 e_M24
  refine g_putI C fX12_36 pX12_36 dX12_town_20 kd_199 e_M24 ?_
  refine g_aload_n (q := 0) C dX12_town_23 rfl rfl ?_
  refine g_iconst C dX12_town_24 rfl ?_
  obtain ⟨M25, e_M25⟩ : ∃ z : Mem, z = up M24 199 9 (-1) := ⟨_, rfl⟩
  have h := h M25 e_M25
  refine g_putI C fX12_39 pX12_39 dX12_town_25 kd_199 e_M25 ?_
  refine g_aload_n (q := 0) C dX12_town_28 rfl rfl ?_
  refine g_iconst C dX12_town_29 rfl ?_
  refine g_aload_n (q := 0) C dX12_town_30 rfl rfl ?_
  refine g_getI C fX12_51 (by decide) dX12_town_31 kd_199 ?_
  refine g_isub C dX12_town_34 ?_
  obtain ⟨M26, e_M26⟩ : ∃ z : Mem, z = up M25 199 34 (1 - (M25 199 13)) := ⟨_, rfl⟩
  have h := h M26 e_M26
  refine g_putI C fX12_115 pX12_115 dX12_town_35 kd_199 e_M26 ?_
  refine g_aload_n (q := 0) C dX12_town_38 rfl rfl ?_
  refine g_getS (v := 201) C fX12_54 dX12_town_39 kd_199 rfl ?_
  refine g_aload_n (q := 0) C dX12_town_42 rfl rfl ?_
  refine g_getI C fX12_115 (by decide) dX12_town_43 kd_199 ?_
  refine g_iconst C dX12_town_46 rfl ?_
  obtain ⟨g27, h⟩ := h
  obtain ⟨M28, e_M28⟩ : ∃ z : Mem, z = up M26 201 (M26 199 34) 0 := ⟨_, rfl⟩
  have h := h M28 e_M28
  refine g_iast C dX12_town_47 kd_201 ln_201 g27 e_M28 ?_
  refine g_aload_n (q := 0) C dX12_town_48 rfl rfl ?_
  refine g_getS (v := 202) C fX12_57 dX12_town_49 kd_199 rfl ?_
  refine g_aload_n (q := 0) C dX12_town_52 rfl rfl ?_
  refine g_getI C fX12_115 (by decide) dX12_town_53 kd_199 ?_
  refine g_iconst C dX12_town_56 rfl ?_
  obtain ⟨g29, h⟩ := h
  obtain ⟨M30, e_M30⟩ : ∃ z : Mem, z = up M28 202 (M28 199 34) 0 := ⟨_, rfl⟩
  have h := h M30 e_M30
  refine g_iast C dX12_town_57 kd_202 ln_202 g29 e_M30 ?_
  refine g_aload_n (q := 0) C dX12_town_58 rfl rfl ?_
  refine g_getS (v := 205) C fX12_66 dX12_town_59 kd_199 rfl ?_
  refine g_aload_n (q := 0) C dX12_town_62 rfl rfl ?_
  refine g_getI C fX12_115 (by decide) dX12_town_63 kd_199 ?_
  refine g_iconst C dX12_town_66 rfl ?_
  obtain ⟨g31, h⟩ := h
  obtain ⟨M32, e_M32⟩ : ∃ z : Mem, z = up M30 205 (M30 199 34) 0 := ⟨_, rfl⟩
  have h := h M32 e_M32
  refine g_iast C dX12_town_67 kd_205 ln_205 g31 e_M32 ?_
  refine g_aload_n (q := 0) C dX12_town_68 rfl rfl ?_
  refine g_getS (v := 208) C fX12_75 dX12_town_69 kd_199 rfl ?_
  refine g_aload_n (q := 0) C dX12_town_72 rfl rfl ?_
  refine g_getI C fX12_115 (by decide) dX12_town_73 kd_199 ?_
  refine g_iconst C dX12_town_76 rfl ?_
  obtain ⟨g33, h⟩ := h
  obtain ⟨M34, e_M34⟩ : ∃ z : Mem, z = up M32 208 (M32 199 34) 0 := ⟨_, rfl⟩
  have h := h M34 e_M34
  refine g_iast C dX12_town_77 kd_208 ln_208 g33 e_M34 ?_
  refine g_aload_n (q := 0) C dX12_town_78 rfl rfl ?_
  refine g_getS (v := 209) C fX12_78 dX12_town_79 kd_199 rfl ?_
  refine g_aload_n (q := 0) C dX12_town_82 rfl rfl ?_
  refine g_getI C fX12_115 (by decide) dX12_town_83 kd_199 ?_
  refine g_iconst C dX12_town_86 rfl ?_
  obtain ⟨g35, h⟩ := h
  obtain ⟨M36, e_M36⟩ : ∃ z : Mem, z = up M34 209 (M34 199 34) 0 := ⟨_, rfl⟩
  have h := h M36 e_M36
  refine g_iast C dX12_town_87 kd_209 ln_209 g35 e_M36 ?_
  refine g_aload_n (q := 0) C dX12_town_88 rfl rfl ?_
  refine g_getS (v := 213) C fX12_90 dX12_town_89 kd_199 rfl ?_
  refine g_aload_n (q := 0) C dX12_town_92 rfl rfl ?_
  refine g_getI C fX12_115 (by decide) dX12_town_93 kd_199 ?_
  refine g_iconst C dX12_town_96 rfl ?_
  obtain ⟨g37, h⟩ := h
  obtain ⟨M38, e_M38⟩ : ∃ z : Mem, z = up M36 213 (M36 199 34) 0 := ⟨_, rfl⟩
  have h := h M38 e_M38
  refine g_iast C dX12_town_97 kd_213 ln_213 g37 e_M38 ?_
  refine g_aload_n (q := 0) C dX12_town_98 rfl rfl ?_
  refine g_getS (v := 214) C fX12_93 dX12_town_99 kd_199 rfl ?_
  refine g_iconst C dX12_town_102 rfl ?_
  refine g_aload_n (q := 0) C dX12_town_103 rfl rfl ?_
  refine g_getI C fX12_115 (by decide) dX12_town_104 kd_199 ?_
  refine g_imul C dX12_town_107 ?_
  refine g_iconst C dX12_town_108 rfl ?_
  obtain ⟨g39, h⟩ := h
  obtain ⟨M40, e_M40⟩ : ∃ z : Mem, z = up M38 214 (2 * (M38 199 34)) (-1) := ⟨_, rfl⟩
  have h := h M40 e_M40
  refine g_iast C dX12_town_109 kd_214 ln_214 g39 e_M40 ?_
  refine g_aload_n (q := 0) C dX12_town_110 rfl rfl ?_
  refine g_getS (v := 214) C fX12_93 dX12_town_111 kd_199 rfl ?_
  refine g_iconst C dX12_town_114 rfl ?_
  refine g_aload_n (q := 0) C dX12_town_115 rfl rfl ?_
  refine g_getI C fX12_115 (by decide) dX12_town_116 kd_199 ?_
  refine g_imul C dX12_town_119 ?_
  refine g_iconst C dX12_town_120 rfl ?_
  refine g_iadd C dX12_town_121 ?_
  refine g_iconst C dX12_town_122 rfl ?_
  obtain ⟨g41, h⟩ := h
  obtain ⟨M42, e_M42⟩ : ∃ z : Mem, z = up M40 214 ((2 * (M40 199 34)) + 1) (-1) := ⟨_, rfl⟩
  have h := h M42 e_M42
  refine g_iast C dX12_town_123 kd_214 ln_214 g41 e_M42 ?_
  refine g_iconst C dX12_town_124 rfl ?_
  refine g_istore_n (lv' := [(1, vI 0), (0, vR Y 199)]) C dX12_town_125 rfl (by decide) rfl ?_
  obtain ⟨f0, h⟩ := h
  refine G.sub [1, 0] rfl ?_
  exact w_X12_town_L126 C hR  f0 _ _ h
set_option maxRecDepth 20000 in
theorem w_X12_fault_J24 {Y : YT} {X : CX} (C : Cx Y X cX12_fault 2 RX12 1) {Q : Int → Mem → Prop} (hR : Rt Y X (some .int) (PQi Y Q)) {s0 : Int}  {M : Mem}  (h : m_X12_fault_J24  Q s0 M) : G Y X 2 24 [] ((vI s0) :: []) M := by
  unfold m_X12_fault_J24 at h
  exact g_reti C hR dX12_fault_24 h
set_option maxRecDepth 20000 in
theorem t_X12_fault {l : Launch} {Y : YT} (hY : YOK Y) {a0 : Int} {M : Mem} {Q : Int → Mem → Prop} (h : m_X12_fault a0 M Q) : Ctr l Y yX12_fault cX12_fault 2 (some .int) 1 [vR Y 199, vI a0] M (PQi Y Q) := by
  unfold m_X12_fault at h
  refine ctr_ofF hY (by decide +kernel) (Nat.le_of_ble_eq_true rfl) [(0, vR Y 199), (1, vI a0)] rfl (fun X hX C hR => ?_)
  refine g_iload_n (q := 1) C dX12_fault_0 rfl rfl ?_
  obtain ⟨g1, h⟩ := h
  obtain ⟨ht, hf⟩ := h
  refine g_if_ne (tgt := 11) C dX12_fault_1 (by decide) g1 (fun c => ?_) (fun c => ?_)
  · have h := hf c
    refine g_iload_n (q := 1) C dX12_fault_11 rfl rfl ?_
    refine g_iconst C dX12_fault_12 rfl ?_
    obtain ⟨g2, h⟩ := h
    obtain ⟨ht, hf⟩ := h
    refine g_icmp_ne (tgt := 23) C dX12_fault_13 (by decide) g2 (by decide) (fun c => ?_) (fun c => ?_)
    · have h := hf c
      refine g_iconst C dX12_fault_23 rfl ?_
      refine G.sub [] rfl ?_
      exact w_X12_fault_J24 C hR  h
    · have h := ht c
      refine g_aload_n (q := 0) C dX12_fault_16 rfl rfl ?_
      refine g_getI C fX12_45 (by decide) dX12_fault_17 kd_199 ?_
      refine g_goto (tgt := 24) C dX12_fault_20 (by decide) ?_
      refine G.sub [] rfl ?_
      exact w_X12_fault_J24 C hR  h
  · have h := ht c
    refine g_aload_n (q := 0) C dX12_fault_4 rfl rfl ?_
    refine g_getI C fX12_42 (by decide) dX12_fault_5 kd_199 ?_
    refine g_goto (tgt := 24) C dX12_fault_8 (by decide) ?_
    refine G.sub [] rfl ?_
    exact w_X12_fault_J24 C hR  h
set_option maxRecDepth 20000 in
theorem w_X12_status_J19 {Y : YT} {X : CX} (C : Cx Y X cX12_status 2 RX12 2) {Q : Int → Mem → Prop} (hR : Rt Y X (some .int) (PQi Y Q)) {s0 : Int}  {M : Mem}  (h : m_X12_status_J19  Q s0 M) : G Y X 2 19 [] ((vI s0) :: []) M := by
  unfold m_X12_status_J19 at h
  exact g_reti C hR dX12_status_19 h
set_option maxRecDepth 20000 in
theorem t_X12_status {l : Launch} {Y : YT} (hY : YOK Y) {a0 : Int} {M : Mem} {Q : Int → Mem → Prop} (h : m_X12_status a0 M Q) : Ctr l Y yX12_status cX12_status 2 (some .int) 2 [vR Y 199, vI a0] M (PQi Y Q) := by
  unfold m_X12_status at h
  refine ctr_ofF hY (by decide +kernel) (Nat.le_of_ble_eq_true rfl) [(0, vR Y 199), (1, vI a0)] rfl (fun X hX C hR => ?_)
  refine g_iload_n (q := 1) C dX12_status_0 rfl rfl ?_
  refine g_iconst C dX12_status_1 rfl ?_
  refine g_iconst C dX12_status_2 rfl ?_
  refine g_cSi (As := [vI a0, vI 0, vI 5]) C clX12_300 clsX12_is dX12_status_3 rfl (Nat.le_of_ble_eq_true rfl) rfl (by decide) (t_X12_is (Cx.ok C) h) (fun r2 M1 h => ?_)
  obtain ⟨g3, h⟩ := h
  obtain ⟨ht, hf⟩ := h
  refine g_if_eq (tgt := 18) C dX12_status_6 (by decide) g3 (fun c => ?_) (fun c => ?_)
  · have h := ht c
    refine g_iconst C dX12_status_18 rfl ?_
    refine G.sub [] rfl ?_
    exact w_X12_status_J19 C hR  h
  · have h := hf c
    refine g_aload_n (q := 0) C dX12_status_9 rfl rfl ?_
    refine g_getS (v := 226) C fX12_153 dX12_status_10 kd_199 rfl ?_
    refine g_iload_n (q := 1) C dX12_status_13 rfl rfl ?_
    obtain ⟨g4, h⟩ := h
    refine g_iald C dX12_status_14 kd_226 ln_226 g4 ?_
    refine g_goto (tgt := 19) C dX12_status_15 (by decide) ?_
    refine G.sub [] rfl ?_
    exact w_X12_status_J19 C hR  h
set_option maxRecDepth 20000 in
theorem w_X12_copies_L122 {Y : YT} {X : CX} (C : Cx Y X cX12_copies 4 RX12 1) {Q : Mem → Prop} (hR : Rt Y X none (PQv Y Q)) {v1 : Int} {v2 : Int}  : ∀ (f : Nat) (v3 : Int) (M : Mem), m_X12_copies_L122  Q v1 v2 f v3 M → G Y X 4 122 [(0, vR Y 199), (1, vI v1), (2, vI v2), (3, vI v3)] ([]) M := by
  intro f
  induction f with
  | zero =>
    intro v3 M h
    exact (show False from h).elim
  | succ f ih =>
    intro v3 M h
    unfold m_X12_copies_L122 at h
    refine g_iload_n (q := 3) C dX12_copies_122 rfl rfl ?_
    refine g_iconst C dX12_copies_123 rfl ?_
    refine g_aload_n (q := 0) C dX12_copies_124 rfl rfl ?_
    refine g_getS (v := 232) C fX12_171 dX12_copies_125 kd_199 rfl ?_
    refine g_iload_n (q := 2) C dX12_copies_128 rfl rfl ?_
    obtain ⟨g1, h⟩ := h
    refine g_iald C dX12_copies_129 kd_232 ln_232 g1 ?_
    refine g_imul C dX12_copies_130 ?_
    obtain ⟨g2, h⟩ := h
    obtain ⟨g3, h⟩ := h
    obtain ⟨ht, hf⟩ := h
    refine g_icmp_ge (tgt := 162) C dX12_copies_131 (by decide) g2 g3 (fun c => ?_) (fun c => ?_)
    · have h := ht c
      exact g_retv C hR dX12_copies_162 h
    · have h := hf c
      refine g_aload_n (q := 0) C dX12_copies_134 rfl rfl ?_
      refine g_getS (v := 233) C fX12_174 dX12_copies_135 kd_199 rfl ?_
      refine g_bipush (v := 120) C dX12_copies_138 (by decide +kernel) ?_
      refine g_iload_n (q := 1) C dX12_copies_140 rfl rfl ?_
      refine g_imul C dX12_copies_141 ?_
      refine g_iload_n (q := 3) C dX12_copies_142 rfl rfl ?_
      refine g_iadd C dX12_copies_143 ?_
      refine g_aload_n (q := 0) C dX12_copies_144 rfl rfl ?_
      refine g_getS (v := 233) C fX12_174 dX12_copies_145 kd_199 rfl ?_
      refine g_bipush (v := 120) C dX12_copies_148 (by decide +kernel) ?_
      refine g_iload_n (q := 2) C dX12_copies_150 rfl rfl ?_
      refine g_imul C dX12_copies_151 ?_
      refine g_iload_n (q := 3) C dX12_copies_152 rfl rfl ?_
      refine g_iadd C dX12_copies_153 ?_
      obtain ⟨g4, h⟩ := h
      refine g_iald C dX12_copies_154 kd_233 ln_233 g4 ?_
      obtain ⟨g5, h⟩ := h
      obtain ⟨M6, e_M6⟩ : ∃ z : Mem, z = up M 233 ((120 * v1) + v3) (M 233 ((120 * v2) + v3)) := ⟨_, rfl⟩
      have h := h M6 e_M6
      refine g_iast C dX12_copies_155 kd_233 ln_233 g5 e_M6 ?_
      refine g_iinc (q := 3) (v := v3 + 1) (lv' := [(3, vI (v3 + 1)), (0, vR Y 199), (1, vI v1), (2, vI v2)]) C dX12_copies_156 rfl rfl (by decide) rfl ?_
      refine g_goto (tgt := 122) C dX12_copies_159 (by decide) ?_
      refine G.sub [1, 2, 3, 0] rfl ?_
      exact ih _ _ h
set_option maxRecDepth 20000 in
theorem w_X12_copies_L74 {Y : YT} {X : CX} (C : Cx Y X cX12_copies 4 RX12 1) {Q : Mem → Prop} (hR : Rt Y X none (PQv Y Q)) {v1 : Int} {v2 : Int}  : ∀ (f : Nat) (v3 : Int) (M : Mem), m_X12_copies_L74  Q v1 v2 f v3 M → G Y X 4 74 [(0, vR Y 199), (1, vI v1), (2, vI v2), (3, vI v3)] ([]) M := by
  intro f
  induction f with
  | zero =>
    intro v3 M h
    exact (show False from h).elim
  | succ f ih =>
    intro v3 M h
    unfold m_X12_copies_L74 at h
    refine g_iload_n (q := 3) C dX12_copies_74 rfl rfl ?_
    refine g_bipush (v := 27) C dX12_copies_75 (by decide +kernel) ?_
    obtain ⟨g7, h⟩ := h
    obtain ⟨ht, hf⟩ := h
    refine g_icmp_ge (tgt := 108) C dX12_copies_77 (by decide) g7 (by decide) (fun c => ?_) (fun c => ?_)
    · have h := ht c
      refine g_aload_n (q := 0) C dX12_copies_108 rfl rfl ?_
      refine g_getS (v := 232) C fX12_171 dX12_copies_109 kd_199 rfl ?_
      refine g_iload_n (q := 1) C dX12_copies_112 rfl rfl ?_
      refine g_aload_n (q := 0) C dX12_copies_113 rfl rfl ?_
      refine g_getS (v := 232) C fX12_171 dX12_copies_114 kd_199 rfl ?_
      refine g_iload_n (q := 2) C dX12_copies_117 rfl rfl ?_
      obtain ⟨g8, h⟩ := h
      refine g_iald C dX12_copies_118 kd_232 ln_232 g8 ?_
      obtain ⟨g9, h⟩ := h
      obtain ⟨M10, e_M10⟩ : ∃ z : Mem, z = up M 232 v1 (M 232 v2) := ⟨_, rfl⟩
      have h := h M10 e_M10
      refine g_iast C dX12_copies_119 kd_232 ln_232 g9 e_M10 ?_
      refine g_iconst C dX12_copies_120 rfl ?_
      refine g_istore_n (lv' := [(3, vI 0), (0, vR Y 199), (1, vI v1), (2, vI v2)]) C dX12_copies_121 rfl (by decide) rfl ?_
      obtain ⟨f0, h⟩ := h
      refine G.sub [1, 2, 3, 0] rfl ?_
      exact w_X12_copies_L122 C hR  f0 _ _ h
    · have h := hf c
      refine g_aload_n (q := 0) C dX12_copies_80 rfl rfl ?_
      refine g_getS (v := 231) C fX12_168 dX12_copies_81 kd_199 rfl ?_
      refine g_bipush (v := 27) C dX12_copies_84 (by decide +kernel) ?_
      refine g_iload_n (q := 1) C dX12_copies_86 rfl rfl ?_
      refine g_imul C dX12_copies_87 ?_
      refine g_iload_n (q := 3) C dX12_copies_88 rfl rfl ?_
      refine g_iadd C dX12_copies_89 ?_
      refine g_aload_n (q := 0) C dX12_copies_90 rfl rfl ?_
      refine g_getS (v := 231) C fX12_168 dX12_copies_91 kd_199 rfl ?_
      refine g_bipush (v := 27) C dX12_copies_94 (by decide +kernel) ?_
      refine g_iload_n (q := 2) C dX12_copies_96 rfl rfl ?_
      refine g_imul C dX12_copies_97 ?_
      refine g_iload_n (q := 3) C dX12_copies_98 rfl rfl ?_
      refine g_iadd C dX12_copies_99 ?_
      obtain ⟨g11, h⟩ := h
      refine g_iald C dX12_copies_100 kd_231 ln_231 g11 ?_
      obtain ⟨g12, h⟩ := h
      obtain ⟨M13, e_M13⟩ : ∃ z : Mem, z = up M 231 ((27 * v1) + v3) (M 231 ((27 * v2) + v3)) := ⟨_, rfl⟩
      have h := h M13 e_M13
      refine g_iast C dX12_copies_101 kd_231 ln_231 g12 e_M13 ?_
      refine g_iinc (q := 3) (v := v3 + 1) (lv' := [(3, vI (v3 + 1)), (0, vR Y 199), (1, vI v1), (2, vI v2)]) C dX12_copies_102 rfl rfl (by decide) rfl ?_
      refine g_goto (tgt := 74) C dX12_copies_105 (by decide) ?_
      refine G.sub [1, 2, 3, 0] rfl ?_
      exact ih _ _ h
set_option maxRecDepth 20000 in
theorem w_X12_copies_L26 {Y : YT} {X : CX} (C : Cx Y X cX12_copies 4 RX12 1) {Q : Mem → Prop} (hR : Rt Y X none (PQv Y Q)) {v1 : Int} {v2 : Int}  : ∀ (f : Nat) (v3 : Int) (M : Mem), m_X12_copies_L26  Q v1 v2 f v3 M → G Y X 4 26 [(0, vR Y 199), (1, vI v1), (2, vI v2), (3, vI v3)] ([]) M := by
  intro f
  induction f with
  | zero =>
    intro v3 M h
    exact (show False from h).elim
  | succ f ih =>
    intro v3 M h
    unfold m_X12_copies_L26 at h
    refine g_iload_n (q := 3) C dX12_copies_26 rfl rfl ?_
    refine g_bipush (v := 6) C dX12_copies_27 (by decide +kernel) ?_
    obtain ⟨g14, h⟩ := h
    obtain ⟨ht, hf⟩ := h
    refine g_icmp_ge (tgt := 60) C dX12_copies_29 (by decide) g14 (by decide) (fun c => ?_) (fun c => ?_)
    · have h := ht c
      refine g_aload_n (q := 0) C dX12_copies_60 rfl rfl ?_
      refine g_getS (v := 230) C fX12_165 dX12_copies_61 kd_199 rfl ?_
      refine g_iload_n (q := 1) C dX12_copies_64 rfl rfl ?_
      refine g_aload_n (q := 0) C dX12_copies_65 rfl rfl ?_
      refine g_getS (v := 230) C fX12_165 dX12_copies_66 kd_199 rfl ?_
      refine g_iload_n (q := 2) C dX12_copies_69 rfl rfl ?_
      obtain ⟨g15, h⟩ := h
      refine g_iald C dX12_copies_70 kd_230 ln_230 g15 ?_
      obtain ⟨g16, h⟩ := h
      obtain ⟨M17, e_M17⟩ : ∃ z : Mem, z = up M 230 v1 (M 230 v2) := ⟨_, rfl⟩
      have h := h M17 e_M17
      refine g_iast C dX12_copies_71 kd_230 ln_230 g16 e_M17 ?_
      refine g_iconst C dX12_copies_72 rfl ?_
      refine g_istore_n (lv' := [(3, vI 0), (0, vR Y 199), (1, vI v1), (2, vI v2)]) C dX12_copies_73 rfl (by decide) rfl ?_
      obtain ⟨f0, h⟩ := h
      refine G.sub [1, 2, 3, 0] rfl ?_
      exact w_X12_copies_L74 C hR  f0 _ _ h
    · have h := hf c
      refine g_aload_n (q := 0) C dX12_copies_32 rfl rfl ?_
      refine g_getS (v := 228) C fX12_159 dX12_copies_33 kd_199 rfl ?_
      refine g_bipush (v := 6) C dX12_copies_36 (by decide +kernel) ?_
      refine g_iload_n (q := 1) C dX12_copies_38 rfl rfl ?_
      refine g_imul C dX12_copies_39 ?_
      refine g_iload_n (q := 3) C dX12_copies_40 rfl rfl ?_
      refine g_iadd C dX12_copies_41 ?_
      refine g_aload_n (q := 0) C dX12_copies_42 rfl rfl ?_
      refine g_getS (v := 228) C fX12_159 dX12_copies_43 kd_199 rfl ?_
      refine g_bipush (v := 6) C dX12_copies_46 (by decide +kernel) ?_
      refine g_iload_n (q := 2) C dX12_copies_48 rfl rfl ?_
      refine g_imul C dX12_copies_49 ?_
      refine g_iload_n (q := 3) C dX12_copies_50 rfl rfl ?_
      refine g_iadd C dX12_copies_51 ?_
      obtain ⟨g18, h⟩ := h
      refine g_iald C dX12_copies_52 kd_228 ln_228 g18 ?_
      obtain ⟨g19, h⟩ := h
      obtain ⟨M20, e_M20⟩ : ∃ z : Mem, z = up M 228 ((6 * v1) + v3) (M 228 ((6 * v2) + v3)) := ⟨_, rfl⟩
      have h := h M20 e_M20
      refine g_iast C dX12_copies_53 kd_228 ln_228 g19 e_M20 ?_
      refine g_iinc (q := 3) (v := v3 + 1) (lv' := [(3, vI (v3 + 1)), (0, vR Y 199), (1, vI v1), (2, vI v2)]) C dX12_copies_54 rfl rfl (by decide) rfl ?_
      refine g_goto (tgt := 26) C dX12_copies_57 (by decide) ?_
      refine G.sub [1, 2, 3, 0] rfl ?_
      exact ih _ _ h
set_option maxRecDepth 20000 in
theorem t_X12_copies {l : Launch} {Y : YT} (hY : YOK Y) {a0 : Int} {a1 : Int} {M : Mem} {Q : Mem → Prop} (h : m_X12_copies a0 a1 M Q) : Ctr l Y yX12_copies cX12_copies 4 none 1 [vR Y 199, vI a0, vI a1] M (PQv Y Q) := by
  unfold m_X12_copies at h
  refine ctr_ofF hY (by decide +kernel) (Nat.le_of_ble_eq_true rfl) [(0, vR Y 199), (1, vI a0), (2, vI a1)] rfl (fun X hX C hR => ?_)
  refine g_aload_n (q := 0) C dX12_copies_0 rfl rfl ?_
  refine g_getS (v := 227) C fX12_156 dX12_copies_1 kd_199 rfl ?_
  refine g_iload_n (q := 1) C dX12_copies_4 rfl rfl ?_
  refine g_aload_n (q := 0) C dX12_copies_5 rfl rfl ?_
  refine g_getS (v := 227) C fX12_156 dX12_copies_6 kd_199 rfl ?_
  refine g_iload_n (q := 2) C dX12_copies_9 rfl rfl ?_
  obtain ⟨g21, h⟩ := h
  refine g_iald C dX12_copies_10 kd_227 ln_227 g21 ?_
  obtain ⟨g22, h⟩ := h
  obtain ⟨M23, e_M23⟩ : ∃ z : Mem, z = up M 227 a0 (M 227 a1) := ⟨_, rfl⟩
  have h := h M23 e_M23
  refine g_iast C dX12_copies_11 kd_227 ln_227 g22 e_M23 ?_
  refine g_aload_n (q := 0) C dX12_copies_12 rfl rfl ?_
  refine g_getS (v := 229) C fX12_162 dX12_copies_13 kd_199 rfl ?_
  refine g_iload_n (q := 1) C dX12_copies_16 rfl rfl ?_
  refine g_aload_n (q := 0) C dX12_copies_17 rfl rfl ?_
  refine g_getS (v := 229) C fX12_162 dX12_copies_18 kd_199 rfl ?_
  refine g_iload_n (q := 2) C dX12_copies_21 rfl rfl ?_
  obtain ⟨g24, h⟩ := h
  refine g_iald C dX12_copies_22 kd_229 ln_229 g24 ?_
  obtain ⟨g25, h⟩ := h
  obtain ⟨M26, e_M26⟩ : ∃ z : Mem, z = up M23 229 a0 (M23 229 a1) := ⟨_, rfl⟩
  have h := h M26 e_M26
  refine g_iast C dX12_copies_23 kd_229 ln_229 g25 e_M26 ?_
  refine g_iconst C dX12_copies_24 rfl ?_
  refine g_istore_n (lv' := [(3, vI 0), (0, vR Y 199), (1, vI a0), (2, vI a1)]) C dX12_copies_25 rfl (by decide) rfl ?_
  obtain ⟨f0, h⟩ := h
  refine G.sub [1, 2, 3, 0] rfl ?_
  exact w_X12_copies_L26 C hR  f0 _ _ h
set_option maxRecDepth 20000 in
theorem t_X12_slot {l : Launch} {Y : YT} (hY : YOK Y) {a0 : Int} {M : Mem} {Q : Int → Mem → Prop} (h : m_X12_slot a0 M Q) : Ctr l Y yX12_slot cX12_slot 2 (some .int) 1 [vR Y 199, vI a0] M (PQi Y Q) := by
  unfold m_X12_slot at h
  refine ctr_ofF hY (by decide +kernel) (Nat.le_of_ble_eq_true rfl) [(0, vR Y 199), (1, vI a0)] rfl (fun X hX C hR => ?_)
  refine g_iconst C dX12_slot_0 rfl ?_
  refine g_aload_n (q := 0) C dX12_slot_1 rfl rfl ?_
  refine g_getI C fX12_177 (by decide) dX12_slot_2 kd_199 ?_
  refine g_iload_n (q := 1) C dX12_slot_5 rfl rfl ?_
  refine g_iadd C dX12_slot_6 ?_
  refine g_bipush (v := 20) C dX12_slot_7 (by decide +kernel) ?_
  obtain ⟨g1, h⟩ := h
  refine g_irem C dX12_slot_9 g1 (by decide) (by decide) ?_
  refine g_iadd C dX12_slot_10 ?_
  exact g_reti C hR dX12_slot_11 h
set_option maxRecDepth 20000 in
theorem w_X12_keeps_J32 {Y : YT} {X : CX} (C : Cx Y X cX12_keeps 1 RX12 2) {Q : Mem → Prop} (hR : Rt Y X none (PQv Y Q))   {M : Mem}  (h : m_X12_keeps_J32  Q  M) : G Y X 1 32 [(0, vR Y 199)] ([]) M := by
  unfold m_X12_keeps_J32 at h
  refine g_aload_n (q := 0) C dX12_keeps_32 rfl rfl ?_
  refine g_aload_n (q := 0) C dX12_keeps_33 rfl rfl ?_
  refine g_aload_n (q := 0) C dX12_keeps_34 rfl rfl ?_
  refine g_getI C fX12_180 (by decide) dX12_keeps_35 kd_199 ?_
  refine g_cVi (As := [vI (M 199 55)]) C clX12_408 clvX12_slot dX12_keeps_38 kd_199 rfl (Nat.le_of_ble_eq_true rfl) rfl (by decide) (t_X12_slot (Cx.ok C) h) (fun r2 M1 h => ?_)
  refine g_iconst C dX12_keeps_41 rfl ?_
  refine g_cVv (As := [vI r2, vI 0]) C clX12_411 clvX12_copies dX12_keeps_42 kd_199 rfl (Nat.le_of_ble_eq_true rfl) rfl (by decide) (t_X12_copies (Cx.ok C) h) (fun M3 h => ?_)
  refine g_aload_n (q := 0) C dX12_keeps_45 rfl rfl ?_
  refine g_dup C dX12_keeps_46 rfl ?_
  refine g_getI C fX12_180 (by decide) dX12_keeps_47 kd_199 ?_
  refine g_iconst C dX12_keeps_50 rfl ?_
  refine g_iadd C dX12_keeps_51 ?_
  obtain ⟨M4, e_M4⟩ : ∃ z : Mem, z = up M3 199 55 ((M3 199 55) + 1) := ⟨_, rfl⟩
  have h := h M4 e_M4
  refine g_putI C fX12_180 pX12_180 dX12_keeps_52 kd_199 e_M4 ?_
  exact g_retv C hR dX12_keeps_55 h
set_option maxRecDepth 20000 in
theorem t_X12_keeps {l : Launch} {Y : YT} (hY : YOK Y) {M : Mem} {Q : Mem → Prop} (h : m_X12_keeps  M Q) : Ctr l Y yX12_keeps cX12_keeps 1 none 2 [vR Y 199] M (PQv Y Q) := by
  unfold m_X12_keeps at h
  refine ctr_ofF hY (by decide +kernel) (Nat.le_of_ble_eq_true rfl) [(0, vR Y 199)] rfl (fun X hX C hR => ?_)
  refine g_aload_n (q := 0) C dX12_keeps_0 rfl rfl ?_
  refine g_getI C fX12_180 (by decide) dX12_keeps_1 kd_199 ?_
  refine g_bipush (v := 20) C dX12_keeps_4 (by decide +kernel) ?_
  obtain ⟨g5, h⟩ := h
  obtain ⟨ht, hf⟩ := h
  refine g_icmp_ne (tgt := 32) C dX12_keeps_6 (by decide) g5 (by decide) (fun c => ?_) (fun c => ?_)
  · have h := hf c
    refine G.sub [0] rfl ?_
    exact w_X12_keeps_J32 C hR  h
  · have h := ht c
    refine g_aload_n (q := 0) C dX12_keeps_9 rfl rfl ?_
    refine g_aload_n (q := 0) C dX12_keeps_10 rfl rfl ?_
    refine g_getI C fX12_177 (by decide) dX12_keeps_11 kd_199 ?_
    refine g_iconst C dX12_keeps_14 rfl ?_
    refine g_iadd C dX12_keeps_15 ?_
    refine g_bipush (v := 20) C dX12_keeps_16 (by decide +kernel) ?_
    obtain ⟨g6, h⟩ := h
    refine g_irem C dX12_keeps_18 g6 (by decide) (by decide) ?_
    obtain ⟨M7, e_M7⟩ : ∃ z : Mem, z = up M 199 54 (((M 199 54) + 1).tmod 20) := ⟨_, rfl⟩
    have h := h M7 e_M7
    refine g_putI C fX12_177 pX12_177 dX12_keeps_19 kd_199 e_M7 ?_
    refine g_aload_n (q := 0) C dX12_keeps_22 rfl rfl ?_
    refine g_dup C dX12_keeps_23 rfl ?_
    refine g_getI C fX12_180 (by decide) dX12_keeps_24 kd_199 ?_
    refine g_iconst C dX12_keeps_27 rfl ?_
    refine g_isub C dX12_keeps_28 ?_
    obtain ⟨M8, e_M8⟩ : ∃ z : Mem, z = up M7 199 55 ((M7 199 55) - 1) := ⟨_, rfl⟩
    have h := h M8 e_M8
    refine g_putI C fX12_180 pX12_180 dX12_keeps_29 kd_199 e_M8 ?_
    refine G.sub [0] rfl ?_
    exact w_X12_keeps_J32 C hR  h
set_option maxRecDepth 20000 in
theorem w_X12_undo_J20 {Y : YT} {X : CX} (C : Cx Y X cX12_undo 1 RX12 2) {Q : Int → Mem → Prop} (hR : Rt Y X (some .boolean) (PQi Y Q)) {s0 : Int}  {M : Mem}  (h : m_X12_undo_J20  Q s0 M) : G Y X 1 20 [] ((vI s0) :: []) M := by
  unfold m_X12_undo_J20 at h
  obtain ⟨g1, h⟩ := h
  exact g_retz C hR dX12_undo_20 g1 h
set_option maxRecDepth 20000 in
theorem t_X12_undo {l : Launch} {Y : YT} (hY : YOK Y) {M : Mem} {Q : Int → Mem → Prop} (h : m_X12_undo  M Q) : Ctr l Y yX12_undo cX12_undo 1 (some .boolean) 2 [vR Y 199] M (PQi Y Q) := by
  unfold m_X12_undo at h
  refine ctr_ofF hY (by decide +kernel) (Nat.le_of_ble_eq_true rfl) [(0, vR Y 199)] rfl (fun X hX C hR => ?_)
  refine g_aload_n (q := 0) C dX12_undo_0 rfl rfl ?_
  refine g_getI C fX12_180 (by decide) dX12_undo_1 kd_199 ?_
  obtain ⟨g2, h⟩ := h
  obtain ⟨ht, hf⟩ := h
  refine g_if_ne (tgt := 21) C dX12_undo_4 (by decide) g2 (fun c => ?_) (fun c => ?_)
  · have h := hf c
    refine g_aload_n (q := 0) C dX12_undo_21 rfl rfl ?_
    refine g_dup C dX12_undo_22 rfl ?_
    refine g_getI C fX12_180 (by decide) dX12_undo_23 kd_199 ?_
    refine g_iconst C dX12_undo_26 rfl ?_
    refine g_isub C dX12_undo_27 ?_
    obtain ⟨M3, e_M3⟩ : ∃ z : Mem, z = up M 199 55 ((M 199 55) - 1) := ⟨_, rfl⟩
    have h := h M3 e_M3
    refine g_putI C fX12_180 pX12_180 dX12_undo_28 kd_199 e_M3 ?_
    refine g_aload_n (q := 0) C dX12_undo_31 rfl rfl ?_
    refine g_iconst C dX12_undo_32 rfl ?_
    refine g_aload_n (q := 0) C dX12_undo_33 rfl rfl ?_
    refine g_aload_n (q := 0) C dX12_undo_34 rfl rfl ?_
    refine g_getI C fX12_180 (by decide) dX12_undo_35 kd_199 ?_
    refine g_cVi (As := [vI (M3 199 55)]) C clX12_408 clvX12_slot dX12_undo_38 kd_199 rfl (Nat.le_of_ble_eq_true rfl) rfl (by decide) (t_X12_slot (Cx.ok C) h) (fun r5 M4 h => ?_)
    refine g_cVv (As := [vI 0, vI r5]) C clX12_411 clvX12_copies dX12_undo_41 kd_199 rfl (Nat.le_of_ble_eq_true rfl) rfl (by decide) (t_X12_copies (Cx.ok C) h) (fun M6 h => ?_)
    refine g_iconst C dX12_undo_44 rfl ?_
    exact g_retz C hR dX12_undo_45 (by decide) h
  · have h := ht c
    refine g_aload_n (q := 0) C dX12_undo_7 rfl rfl ?_
    refine g_iconst C dX12_undo_8 rfl ?_
    refine g_cVi (As := [vI 4]) C clX12_216 clvX12_refuses dX12_undo_9 kd_199 rfl (Nat.le_of_ble_eq_true rfl) rfl (by decide) (t_X12_refuses (Cx.ok C) h) (fun r8 M7 h => ?_)
    obtain ⟨g9, h⟩ := h
    obtain ⟨ht, hf⟩ := h
    refine g_if_lt (tgt := 19) C dX12_undo_12 (by decide) g9 (fun c => ?_) (fun c => ?_)
    · have h := ht c
      refine g_iconst C dX12_undo_19 rfl ?_
      refine G.sub [] rfl ?_
      exact w_X12_undo_J20 C hR  h
    · have h := hf c
      refine g_iconst C dX12_undo_15 rfl ?_
      refine g_goto (tgt := 20) C dX12_undo_16 (by decide) ?_
      refine G.sub [] rfl ?_
      exact w_X12_undo_J20 C hR  h
set_option maxRecDepth 20000 in
theorem w_X12_held_J29 {Y : YT} {X : CX} (C : Cx Y X cX12_held 2 RX12 1) {Q : Int → Mem → Prop} (hR : Rt Y X (some .long) (PQl Y Q)) {s0 : Int}  {M : Mem}  (h : m_X12_held_J29  Q s0 M) : G Y X 2 29 [] ((vL s0) :: []) M := by
  unfold m_X12_held_J29 at h
  exact g_retl C hR dX12_held_29 h
set_option maxRecDepth 20000 in
theorem t_X12_held {l : Launch} {Y : YT} (hY : YOK Y) {a0 : Int} {M : Mem} {Q : Int → Mem → Prop} (h : m_X12_held a0 M Q) : Ctr l Y yX12_held cX12_held 2 (some .long) 1 [vL a0] M (PQl Y Q) := by
  unfold m_X12_held at h
  refine ctr_ofF hY (by decide +kernel) (Nat.le_of_ble_eq_true rfl) [(0, vL a0)] rfl (fun X hX C hR => ?_)
  refine g_lload_n (q := 0) C dX12_held_0 rfl rfl ?_
  refine g_ldc2 (v := 1000000) C dX12_held_1 kX12_414 (by decide +kernel) ?_
  obtain ⟨g1, h⟩ := h
  obtain ⟨ht, hf⟩ := h
  refine g_lcmp_le (tgt := 14) C dX12_held_4 dX12_held_5 (by decide) g1 (by decide) (fun c => ?_) (fun c => ?_)
  · have h := ht c
    refine g_lload_n (q := 0) C dX12_held_14 rfl rfl ?_
    refine g_ldc2 (v := (-1000000)) C dX12_held_15 kX12_416 (by decide +kernel) ?_
    obtain ⟨g2, h⟩ := h
    obtain ⟨ht, hf⟩ := h
    refine g_lcmp_ge (tgt := 28) C dX12_held_18 dX12_held_19 (by decide) g2 (by decide) (fun c => ?_) (fun c => ?_)
    · have h := ht c
      refine g_lload_n (q := 0) C dX12_held_28 rfl rfl ?_
      refine G.sub [] rfl ?_
      exact w_X12_held_J29 C hR  h
    · have h := hf c
      refine g_ldc2 (v := (-1000000)) C dX12_held_22 kX12_416 (by decide +kernel) ?_
      refine g_goto (tgt := 29) C dX12_held_25 (by decide) ?_
      refine G.sub [] rfl ?_
      exact w_X12_held_J29 C hR  h
  · have h := hf c
    refine g_ldc2 (v := 1000000) C dX12_held_8 kX12_414 (by decide +kernel) ?_
    refine g_goto (tgt := 29) C dX12_held_11 (by decide) ?_
    refine G.sub [] rfl ?_
    exact w_X12_held_J29 C hR  h
set_option maxRecDepth 20000 in
theorem w_X12_floor_J55 {Y : YT} {X : CX} (C : Cx Y X cX12_floor 6 RX12 1) {Q : Int → Mem → Prop} (hR : Rt Y X (some .long) (PQl Y Q)) {s0 : Int}  {M : Mem}  (h : m_X12_floor_J55  Q s0 M) : G Y X 6 55 [] ((vL s0) :: []) M := by
  unfold m_X12_floor_J55 at h
  exact g_retl C hR dX12_floor_55 h
set_option maxRecDepth 20000 in
theorem w_X12_floor_J53 {Y : YT} {X : CX} (C : Cx Y X cX12_floor 6 RX12 1) {Q : Int → Mem → Prop} (hR : Rt Y X (some .long) (PQl Y Q)) {v4 : Int}  {M : Mem}  (h : m_X12_floor_J53  Q v4 M) : G Y X 6 53 [(4, vL v4)] ([]) M := by
  unfold m_X12_floor_J53 at h
  refine g_lload (q := 0) C dX12_floor_53 rfl ?_
  refine G.sub [] rfl ?_
  exact w_X12_floor_J55 C hR  h
set_option maxRecDepth 20000 in
theorem w_X12_floor_J43 {Y : YT} {X : CX} (C : Cx Y X cX12_floor 6 RX12 1) {Q : Int → Mem → Prop} (hR : Rt Y X (some .long) (PQl Y Q)) {v4 : Int} {s0 : Int} {s1 : Int}  {M : Mem}  (h : m_X12_floor_J43  Q v4 s0 s1 M) : G Y X 6 43 [(4, vL v4)] ((vI s1) :: (vI s0) :: []) M := by
  unfold m_X12_floor_J43 at h
  obtain ⟨g1, h⟩ := h
  obtain ⟨g2, h⟩ := h
  obtain ⟨ht, hf⟩ := h
  refine g_icmp_eq (tgt := 53) C dX12_floor_43 (by decide) g1 g2 (fun c => ?_) (fun c => ?_)
  · have h := ht c
    refine G.sub [0] rfl ?_
    exact w_X12_floor_J53 C hR  h
  · have h := hf c
    refine g_lload (q := 0) C dX12_floor_46 rfl ?_
    refine g_lconst (v := 1) C dX12_floor_48 (by decide +kernel) ?_
    refine g_lsub C dX12_floor_49 ?_
    refine g_goto (tgt := 55) C dX12_floor_50 (by decide) ?_
    refine G.sub [] rfl ?_
    exact w_X12_floor_J55 C hR  h
set_option maxRecDepth 20000 in
theorem w_X12_floor_J32 {Y : YT} {X : CX} (C : Cx Y X cX12_floor 6 RX12 1) {Q : Int → Mem → Prop} (hR : Rt Y X (some .long) (PQl Y Q)) {v2 : Int} {v4 : Int} {s0 : Int}  {M : Mem}  (h : m_X12_floor_J32  Q v2 v4 s0 M) : G Y X 6 32 [(2, vL v2), (4, vL v4)] ((vI s0) :: []) M := by
  unfold m_X12_floor_J32 at h
  refine g_lload_n (q := 0) C dX12_floor_32 rfl rfl ?_
  refine g_lconst (v := 0) C dX12_floor_33 (by decide +kernel) ?_
  obtain ⟨g3, h⟩ := h
  obtain ⟨ht, hf⟩ := h
  refine g_lcmp_ge (tgt := 42) C dX12_floor_34 dX12_floor_35 (by decide) g3 (by decide) (fun c => ?_) (fun c => ?_)
  · have h := ht c
    refine g_iconst C dX12_floor_42 rfl ?_
    refine G.sub [1] rfl ?_
    exact w_X12_floor_J43 C hR  h
  · have h := hf c
    refine g_iconst C dX12_floor_38 rfl ?_
    refine g_goto (tgt := 43) C dX12_floor_39 (by decide) ?_
    refine G.sub [1] rfl ?_
    exact w_X12_floor_J43 C hR  h
set_option maxRecDepth 20000 in
theorem t_X12_floor {l : Launch} {Y : YT} (hY : YOK Y) {a0 : Int} {a1 : Int} {M : Mem} {Q : Int → Mem → Prop} (h : m_X12_floor a0 a1 M Q) : Ctr l Y yX12_floor cX12_floor 6 (some .long) 1 [vL a0, vL a1] M (PQl Y Q) := by
  unfold m_X12_floor at h
  refine ctr_ofF hY (by decide +kernel) (Nat.le_of_ble_eq_true rfl) [(0, vL a0), (2, vL a1)] rfl (fun X hX C hR => ?_)
  refine g_lload_n (q := 1) C dX12_floor_0 rfl rfl ?_
  refine g_lconst (v := 0) C dX12_floor_1 (by decide +kernel) ?_
  obtain ⟨g4, h⟩ := h
  obtain ⟨ht, hf⟩ := h
  refine g_lcmp_ne (tgt := 8) C dX12_floor_2 dX12_floor_3 (by decide) g4 (by decide) (fun c => ?_) (fun c => ?_)
  · have h := hf c
    refine g_lload_n (q := 0) C dX12_floor_8 rfl rfl ?_
    refine g_lload_n (q := 1) C dX12_floor_9 rfl rfl ?_
    obtain ⟨g5, h⟩ := h
    obtain ⟨g6, h⟩ := h
    obtain ⟨g7, h⟩ := h
    refine g_ldiv C dX12_floor_10 g5 g6 g7 ?_
    refine g_lstore (lv' := [(4, vL (a0.tdiv a1)), (0, vL a0), (2, vL a1)]) C dX12_floor_11 (by decide) rfl ?_
    refine g_lload_n (q := 1) C dX12_floor_13 rfl rfl ?_
    refine g_lload_n (q := 2) C dX12_floor_14 rfl rfl ?_
    obtain ⟨g8, h⟩ := h
    obtain ⟨g9, h⟩ := h
    obtain ⟨g10, h⟩ := h
    refine g_lrem C dX12_floor_15 g8 g9 g10 ?_
    refine g_lconst (v := 0) C dX12_floor_16 (by decide +kernel) ?_
    obtain ⟨g11, h⟩ := h
    obtain ⟨ht, hf⟩ := h
    refine g_lcmp_eq (tgt := 53) C dX12_floor_17 dX12_floor_18 (by decide) g11 (by decide) (fun c => ?_) (fun c => ?_)
    · have h := ht c
      refine G.sub [0] rfl ?_
      exact w_X12_floor_J53 C hR  h
    · have h := hf c
      refine g_lload_n (q := 1) C dX12_floor_21 rfl rfl ?_
      refine g_lconst (v := 0) C dX12_floor_22 (by decide +kernel) ?_
      obtain ⟨g12, h⟩ := h
      obtain ⟨ht, hf⟩ := h
      refine g_lcmp_ge (tgt := 31) C dX12_floor_23 dX12_floor_24 (by decide) g12 (by decide) (fun c => ?_) (fun c => ?_)
      · have h := ht c
        refine g_iconst C dX12_floor_31 rfl ?_
        refine G.sub [2, 0] rfl ?_
        exact w_X12_floor_J32 C hR  h
      · have h := hf c
        refine g_iconst C dX12_floor_27 rfl ?_
        refine g_goto (tgt := 32) C dX12_floor_28 (by decide) ?_
        refine G.sub [2, 0] rfl ?_
        exact w_X12_floor_J32 C hR  h
  · have h := ht c
    refine g_lconst (v := 0) C dX12_floor_6 (by decide +kernel) ?_
    exact g_retl C hR dX12_floor_7 h
set_option maxRecDepth 20000 in
theorem w_X12_two_J172 {Y : YT} {X : CX} (C : Cx Y X cX12_two 5 RX12 2) {Q : Int → Mem → Prop} (hR : Rt Y X (some .long) (PQl Y Q)) {s0 : Int}  {M : Mem}  (h : m_X12_two_J172  Q s0 M) : G Y X 5 172 [] ((vL s0) :: []) M := by
  unfold m_X12_two_J172 at h
  exact g_retl C hR dX12_two_172 h
set_option maxRecDepth 20000 in
theorem w_X12_two_J160 {Y : YT} {X : CX} (C : Cx Y X cX12_two 5 RX12 2) {Q : Int → Mem → Prop} (hR : Rt Y X (some .long) (PQl Y Q)) {s0 : Int}  {M : Mem}  (h : m_X12_two_J160  Q s0 M) : G Y X 5 160 [] ((vL s0) :: []) M := by
  unfold m_X12_two_J160 at h
  exact g_retl C hR dX12_two_160 h
set_option maxRecDepth 20000 in
theorem w_X12_two_J148 {Y : YT} {X : CX} (C : Cx Y X cX12_two 5 RX12 2) {Q : Int → Mem → Prop} (hR : Rt Y X (some .long) (PQl Y Q)) {s0 : Int}  {M : Mem}  (h : m_X12_two_J148  Q s0 M) : G Y X 5 148 [] ((vL s0) :: []) M := by
  unfold m_X12_two_J148 at h
  exact g_retl C hR dX12_two_148 h
set_option maxRecDepth 20000 in
theorem w_X12_two_J136 {Y : YT} {X : CX} (C : Cx Y X cX12_two 5 RX12 2) {Q : Int → Mem → Prop} (hR : Rt Y X (some .long) (PQl Y Q)) {s0 : Int}  {M : Mem}  (h : m_X12_two_J136  Q s0 M) : G Y X 5 136 [] ((vL s0) :: []) M := by
  unfold m_X12_two_J136 at h
  exact g_retl C hR dX12_two_136 h
set_option maxRecDepth 20000 in
theorem w_X12_two_J124 {Y : YT} {X : CX} (C : Cx Y X cX12_two 5 RX12 2) {Q : Int → Mem → Prop} (hR : Rt Y X (some .long) (PQl Y Q)) {s0 : Int}  {M : Mem}  (h : m_X12_two_J124  Q s0 M) : G Y X 5 124 [] ((vL s0) :: []) M := by
  unfold m_X12_two_J124 at h
  exact g_retl C hR dX12_two_124 h
set_option maxRecDepth 20000 in
theorem w_X12_two_J112 {Y : YT} {X : CX} (C : Cx Y X cX12_two 5 RX12 2) {Q : Int → Mem → Prop} (hR : Rt Y X (some .long) (PQl Y Q)) {s0 : Int}  {M : Mem}  (h : m_X12_two_J112  Q s0 M) : G Y X 5 112 [] ((vL s0) :: []) M := by
  unfold m_X12_two_J112 at h
  exact g_retl C hR dX12_two_112 h
set_option maxRecDepth 20000 in
theorem t_X12_two {l : Launch} {Y : YT} (hY : YOK Y) {a0 : Int} {a1 : Int} {a2 : Int} {M : Mem} {Q : Int → Mem → Prop} (h : m_X12_two a0 a1 a2 M Q) : Ctr l Y yX12_two cX12_two 5 (some .long) 2 [vI a0, vL a1, vL a2] M (PQl Y Q) := by
  unfold m_X12_two at h
  refine ctr_ofF hY (by decide +kernel) (Nat.le_of_ble_eq_true rfl) [(0, vI a0), (1, vL a1), (3, vL a2)] rfl (fun X hX C hR => ?_)
  refine g_iload_n (q := 0) C dX12_two_0 rfl rfl ?_
  obtain ⟨g1, h⟩ := h
  refine G.nmI (x := a0) rfl ?_
  obtain ⟨c0, c1, c2, c3, c4, c5, c6, c7, c8, c9, c10, c11⟩ := h
  rcases (show (a0 = 31) ∨ (a0 = 32) ∨ (a0 = 33) ∨ (a0 = 34) ∨ (a0 = 35) ∨ (a0 = 36) ∨ (a0 = 37) ∨ (a0 = 38) ∨ (a0 = 39) ∨ (a0 = 40) ∨ (a0 = 41) ∨ (a0 < 31 ∨ 41 < a0) by omega) with q | q | q | q | q | q | q | q | q | q | q | q
  · have h := c0 q
    refine g_tswIn (off := 59) (tgt := 60) C dX12_two_1 g1 (by omega) (by omega) (by rw [q]; rfl) (by decide) ?_
    refine g_lload_n (q := 1) C dX12_two_60 rfl rfl ?_
    refine g_lload_n (q := 2) C dX12_two_61 rfl rfl ?_
    refine g_ladd C dX12_two_62 ?_
    refine g_cSl (As := [vL (a1 + a2)]) C clX12_418 clsX12_held dX12_two_63 rfl (Nat.le_of_ble_eq_true rfl) rfl (by decide) (t_X12_held (Cx.ok C) h) (fun r3 M2 h => ?_)
    exact g_retl C hR dX12_two_66 h
  · have h := c1 q
    refine g_tswIn (off := 66) (tgt := 67) C dX12_two_1 g1 (by omega) (by omega) (by rw [q]; rfl) (by decide) ?_
    refine g_lload_n (q := 1) C dX12_two_67 rfl rfl ?_
    refine g_lload_n (q := 2) C dX12_two_68 rfl rfl ?_
    refine g_lsub C dX12_two_69 ?_
    refine g_cSl (As := [vL (a1 - a2)]) C clX12_418 clsX12_held dX12_two_70 rfl (Nat.le_of_ble_eq_true rfl) rfl (by decide) (t_X12_held (Cx.ok C) h) (fun r5 M4 h => ?_)
    exact g_retl C hR dX12_two_73 h
  · have h := c2 q
    refine g_tswIn (off := 73) (tgt := 74) C dX12_two_1 g1 (by omega) (by omega) (by rw [q]; rfl) (by decide) ?_
    refine g_lload_n (q := 1) C dX12_two_74 rfl rfl ?_
    refine g_lload_n (q := 2) C dX12_two_75 rfl rfl ?_
    refine g_lmul C dX12_two_76 ?_
    refine g_cSl (As := [vL (a1 * a2)]) C clX12_418 clsX12_held dX12_two_77 rfl (Nat.le_of_ble_eq_true rfl) rfl (by decide) (t_X12_held (Cx.ok C) h) (fun r7 M6 h => ?_)
    exact g_retl C hR dX12_two_80 h
  · have h := c3 q
    refine g_tswIn (off := 80) (tgt := 81) C dX12_two_1 g1 (by omega) (by omega) (by rw [q]; rfl) (by decide) ?_
    refine g_lload_n (q := 1) C dX12_two_81 rfl rfl ?_
    refine g_lload_n (q := 2) C dX12_two_82 rfl rfl ?_
    refine g_cSl (As := [vL a1, vL a2]) C clX12_422 clsX12_floor dX12_two_83 rfl (Nat.le_of_ble_eq_true rfl) rfl (by decide) (t_X12_floor (Cx.ok C) h) (fun r9 M8 h => ?_)
    refine g_cSl (As := [vL r9]) C clX12_418 clsX12_held dX12_two_86 rfl (Nat.le_of_ble_eq_true rfl) rfl (by decide) (t_X12_held (Cx.ok C) h) (fun r11 M10 h => ?_)
    exact g_retl C hR dX12_two_89 h
  · have h := c4 q
    refine g_tswIn (off := 89) (tgt := 90) C dX12_two_1 g1 (by omega) (by omega) (by rw [q]; rfl) (by decide) ?_
    refine g_lload_n (q := 2) C dX12_two_90 rfl rfl ?_
    refine g_lconst (v := 0) C dX12_two_91 (by decide +kernel) ?_
    obtain ⟨g12, h⟩ := h
    obtain ⟨ht, hf⟩ := h
    refine g_lcmp_ne (tgt := 100) C dX12_two_92 dX12_two_93 (by decide) g12 (by decide) (fun c => ?_) (fun c => ?_)
    · have h := hf c
      refine g_lload_n (q := 1) C dX12_two_100 rfl rfl ?_
      refine g_lload_n (q := 2) C dX12_two_101 rfl rfl ?_
      refine g_lload_n (q := 1) C dX12_two_102 rfl rfl ?_
      refine g_lload_n (q := 2) C dX12_two_103 rfl rfl ?_
      refine g_cSl (As := [vL a1, vL a2]) C clX12_422 clsX12_floor dX12_two_104 rfl (Nat.le_of_ble_eq_true rfl) rfl (by decide) (t_X12_floor (Cx.ok C) h) (fun r14 M13 h => ?_)
      refine g_lmul C dX12_two_107 ?_
      refine g_lsub C dX12_two_108 ?_
      refine g_cSl (As := [vL (a1 - (a2 * r14))]) C clX12_418 clsX12_held dX12_two_109 rfl (Nat.le_of_ble_eq_true rfl) rfl (by decide) (t_X12_held (Cx.ok C) h) (fun r16 M15 h => ?_)
      refine G.sub [] rfl ?_
      exact w_X12_two_J112 C hR  h
    · have h := ht c
      refine g_lconst (v := 0) C dX12_two_96 (by decide +kernel) ?_
      refine g_goto (tgt := 112) C dX12_two_97 (by decide) ?_
      refine G.sub [] rfl ?_
      exact w_X12_two_J112 C hR  h
  · have h := c5 q
    refine g_tswIn (off := 112) (tgt := 113) C dX12_two_1 g1 (by omega) (by omega) (by rw [q]; rfl) (by decide) ?_
    refine g_lload_n (q := 1) C dX12_two_113 rfl rfl ?_
    refine g_lload_n (q := 2) C dX12_two_114 rfl rfl ?_
    obtain ⟨g17, h⟩ := h
    obtain ⟨g18, h⟩ := h
    obtain ⟨ht, hf⟩ := h
    refine g_lcmp_ge (tgt := 123) C dX12_two_115 dX12_two_116 (by decide) g17 g18 (fun c => ?_) (fun c => ?_)
    · have h := ht c
      refine g_lload_n (q := 2) C dX12_two_123 rfl rfl ?_
      refine G.sub [] rfl ?_
      exact w_X12_two_J124 C hR  h
    · have h := hf c
      refine g_lload_n (q := 1) C dX12_two_119 rfl rfl ?_
      refine g_goto (tgt := 124) C dX12_two_120 (by decide) ?_
      refine G.sub [] rfl ?_
      exact w_X12_two_J124 C hR  h
  · have h := c6 q
    refine g_tswIn (off := 124) (tgt := 125) C dX12_two_1 g1 (by omega) (by omega) (by rw [q]; rfl) (by decide) ?_
    refine g_lload_n (q := 1) C dX12_two_125 rfl rfl ?_
    refine g_lload_n (q := 2) C dX12_two_126 rfl rfl ?_
    obtain ⟨g19, h⟩ := h
    obtain ⟨g20, h⟩ := h
    obtain ⟨ht, hf⟩ := h
    refine g_lcmp_le (tgt := 135) C dX12_two_127 dX12_two_128 (by decide) g19 g20 (fun c => ?_) (fun c => ?_)
    · have h := ht c
      refine g_lload_n (q := 2) C dX12_two_135 rfl rfl ?_
      refine G.sub [] rfl ?_
      exact w_X12_two_J136 C hR  h
    · have h := hf c
      refine g_lload_n (q := 1) C dX12_two_131 rfl rfl ?_
      refine g_goto (tgt := 136) C dX12_two_132 (by decide) ?_
      refine G.sub [] rfl ?_
      exact w_X12_two_J136 C hR  h
  · have h := c7 q
    refine g_tswIn (off := 136) (tgt := 137) C dX12_two_1 g1 (by omega) (by omega) (by rw [q]; rfl) (by decide) ?_
    refine g_lload_n (q := 1) C dX12_two_137 rfl rfl ?_
    refine g_lload_n (q := 2) C dX12_two_138 rfl rfl ?_
    obtain ⟨g21, h⟩ := h
    obtain ⟨g22, h⟩ := h
    obtain ⟨ht, hf⟩ := h
    refine g_lcmp_ge (tgt := 147) C dX12_two_139 dX12_two_140 (by decide) g21 g22 (fun c => ?_) (fun c => ?_)
    · have h := ht c
      refine g_lconst (v := 0) C dX12_two_147 (by decide +kernel) ?_
      refine G.sub [] rfl ?_
      exact w_X12_two_J148 C hR  h
    · have h := hf c
      refine g_lconst (v := 1) C dX12_two_143 (by decide +kernel) ?_
      refine g_goto (tgt := 148) C dX12_two_144 (by decide) ?_
      refine G.sub [] rfl ?_
      exact w_X12_two_J148 C hR  h
  · have h := c8 q
    refine g_tswIn (off := 148) (tgt := 149) C dX12_two_1 g1 (by omega) (by omega) (by rw [q]; rfl) (by decide) ?_
    refine g_lload_n (q := 1) C dX12_two_149 rfl rfl ?_
    refine g_lload_n (q := 2) C dX12_two_150 rfl rfl ?_
    obtain ⟨g23, h⟩ := h
    obtain ⟨g24, h⟩ := h
    obtain ⟨ht, hf⟩ := h
    refine g_lcmp_le (tgt := 159) C dX12_two_151 dX12_two_152 (by decide) g23 g24 (fun c => ?_) (fun c => ?_)
    · have h := ht c
      refine g_lconst (v := 0) C dX12_two_159 (by decide +kernel) ?_
      refine G.sub [] rfl ?_
      exact w_X12_two_J160 C hR  h
    · have h := hf c
      refine g_lconst (v := 1) C dX12_two_155 (by decide +kernel) ?_
      refine g_goto (tgt := 160) C dX12_two_156 (by decide) ?_
      refine G.sub [] rfl ?_
      exact w_X12_two_J160 C hR  h
  · have h := c9 q
    refine g_tswIn (off := 160) (tgt := 161) C dX12_two_1 g1 (by omega) (by omega) (by rw [q]; rfl) (by decide) ?_
    refine g_lload_n (q := 1) C dX12_two_161 rfl rfl ?_
    refine g_lload_n (q := 2) C dX12_two_162 rfl rfl ?_
    obtain ⟨g25, h⟩ := h
    obtain ⟨g26, h⟩ := h
    obtain ⟨ht, hf⟩ := h
    refine g_lcmp_ne (tgt := 171) C dX12_two_163 dX12_two_164 (by decide) g25 g26 (fun c => ?_) (fun c => ?_)
    · have h := hf c
      refine g_lconst (v := 0) C dX12_two_171 (by decide +kernel) ?_
      refine G.sub [] rfl ?_
      exact w_X12_two_J172 C hR  h
    · have h := ht c
      refine g_lconst (v := 1) C dX12_two_167 (by decide +kernel) ?_
      refine g_goto (tgt := 172) C dX12_two_168 (by decide) ?_
      refine G.sub [] rfl ?_
      exact w_X12_two_J172 C hR  h
  · have h := c10 q
    refine g_tswIn (off := 172) (tgt := 173) C dX12_two_1 g1 (by omega) (by omega) (by rw [q]; rfl) (by decide) ?_
    refine g_lload_n (q := 1) C dX12_two_173 rfl rfl ?_
    refine g_lload_n (q := 2) C dX12_two_174 rfl rfl ?_
    refine g_land C dX12_two_175 ?_
    exact g_retl C hR dX12_two_176 h
  · have h := c11 q
    refine g_tswOut (tgt := 177) C dX12_two_1 g1 q (by decide) ?_
    refine g_lload_n (q := 1) C dX12_two_177 rfl rfl ?_
    refine g_lload_n (q := 2) C dX12_two_178 rfl rfl ?_
    refine g_lor C dX12_two_179 ?_
    exact g_retl C hR dX12_two_180 h
set_option maxRecDepth 20000 in
theorem w_X12_reckons_J221 {Y : YT} {X : CX} (C : Cx Y X cX12_reckons 5 RX12 3) {Q : Int → Mem → Prop} (hR : Rt Y X (some .long) (PQl Y Q)) {v1 : Int} {v2 : Int} {v3 : Int} {k25 : Int → Int → Mem → Prop} (hk25 : ∀ (v2 : Int) (v3 : Int)  (M : Mem), k25 v2 v3 M → G Y X 5 25 [(0, vR Y 199), (1, vI v1), (2, vI v2), (3, vI v3)] ([]) M) {M : Mem}  (h : m_X12_reckons_J221 k25 Q v1 v2 v3 M) : G Y X 5 221 [(0, vR Y 199), (1, vI v1), (2, vI v2), (3, vI v3)] ([]) M := by
  unfold m_X12_reckons_J221 at h
  refine g_iinc (q := 3) (v := v3 + 1) (lv' := [(3, vI (v3 + 1)), (0, vR Y 199), (1, vI v1), (2, vI v2)]) C dX12_reckons_221 rfl rfl (by decide) rfl ?_
  refine g_goto (tgt := 25) C dX12_reckons_224 (by decide) ?_
  refine G.sub [1, 2, 3, 0] rfl ?_
  exact hk25 _ _ _ h
set_option maxRecDepth 20000 in
theorem w_X12_reckons_J187 {Y : YT} {X : CX} (C : Cx Y X cX12_reckons 5 RX12 3) {Q : Int → Mem → Prop} (hR : Rt Y X (some .long) (PQl Y Q)) {v1 : Int} {v2 : Int} {v3 : Int} {s0 : Int} {s1 : Int} {s2 : Int} {k25 : Int → Int → Mem → Prop} (hk25 : ∀ (v2 : Int) (v3 : Int)  (M : Mem), k25 v2 v3 M → G Y X 5 25 [(0, vR Y 199), (1, vI v1), (2, vI v2), (3, vI v3)] ([]) M) {M : Mem} (hk_s0 : kd s0 = 21) (h : m_X12_reckons_J187 k25 Q v1 v2 v3 s0 s1 s2 M) : G Y X 5 187 [(0, vR Y 199), (1, vI v1), (2, vI v2), (3, vI v3)] ((vL s2) :: (vI s1) :: (vR Y s0) :: []) M := by
  unfold m_X12_reckons_J187 at h
  obtain ⟨g1, h⟩ := h
  obtain ⟨M2, e_M2⟩ : ∃ z : Mem, z = up M s0 s1 s2 := ⟨_, rfl⟩
  have h := h M2 e_M2
  refine g_last C dX12_reckons_187 hk_s0 rfl g1 e_M2 ?_
  refine g_goto (tgt := 221) C dX12_reckons_188 (by decide) ?_
  refine G.sub [0, 1, 2, 3] rfl ?_
  exact w_X12_reckons_J221 C hR (hk25)  h
set_option maxRecDepth 20000 in
theorem w_X12_reckons_J105 {Y : YT} {X : CX} (C : Cx Y X cX12_reckons 5 RX12 3) {Q : Int → Mem → Prop} (hR : Rt Y X (some .long) (PQl Y Q)) {v1 : Int} {v2 : Int} {v3 : Int} {s0 : Int} {s1 : Int} {s2 : Int} {k25 : Int → Int → Mem → Prop} (hk25 : ∀ (v2 : Int) (v3 : Int)  (M : Mem), k25 v2 v3 M → G Y X 5 25 [(0, vR Y 199), (1, vI v1), (2, vI v2), (3, vI v3)] ([]) M) {M : Mem} (hk_s0 : kd s0 = 21) (h : m_X12_reckons_J105 k25 Q v1 v2 v3 s0 s1 s2 M) : G Y X 5 105 [(0, vR Y 199), (1, vI v1), (2, vI v2), (3, vI v3)] ((vL s2) :: (vI s1) :: (vR Y s0) :: []) M := by
  unfold m_X12_reckons_J105 at h
  obtain ⟨g3, h⟩ := h
  obtain ⟨M4, e_M4⟩ : ∃ z : Mem, z = up M s0 s1 s2 := ⟨_, rfl⟩
  have h := h M4 e_M4
  refine g_last C dX12_reckons_105 hk_s0 rfl g3 e_M4 ?_
  refine g_iinc (q := 2) (v := v2 + 1) (lv' := [(2, vI (v2 + 1)), (0, vR Y 199), (1, vI v1), (3, vI v3)]) C dX12_reckons_106 rfl rfl (by decide) rfl ?_
  refine g_goto (tgt := 221) C dX12_reckons_109 (by decide) ?_
  refine G.sub [1, 2, 0, 3] rfl ?_
  exact w_X12_reckons_J221 C hR (hk25)  h
set_option maxRecDepth 20000 in
theorem w_X12_reckons_L25 {Y : YT} {X : CX} (C : Cx Y X cX12_reckons 5 RX12 3) {Q : Int → Mem → Prop} (hR : Rt Y X (some .long) (PQl Y Q)) {v1 : Int}  : ∀ (f : Nat) (v2 : Int) (v3 : Int) (M : Mem), m_X12_reckons_L25  Q v1 f v2 v3 M → G Y X 5 25 [(0, vR Y 199), (1, vI v1), (2, vI v2), (3, vI v3)] ([]) M := by
  intro f
  induction f with
  | zero =>
    intro v2 v3 M h
    exact (show False from h).elim
  | succ f ih =>
    intro v2 v3 M h
    unfold m_X12_reckons_L25 at h
    refine g_iload_n (q := 3) C dX12_reckons_25 rfl rfl ?_
    refine g_sipush (v := 1600) C dX12_reckons_26 (by decide +kernel) ?_
    refine g_aload_n (q := 0) C dX12_reckons_29 rfl rfl ?_
    refine g_getI C fX12_51 (by decide) dX12_reckons_30 kd_199 ?_
    refine g_imul C dX12_reckons_33 ?_
    refine g_aload_n (q := 0) C dX12_reckons_34 rfl rfl ?_
    refine g_getS (v := 215) C fX12_96 dX12_reckons_35 kd_199 rfl ?_
    refine g_iconst C dX12_reckons_38 rfl ?_
    refine g_aload_n (q := 0) C dX12_reckons_39 rfl rfl ?_
    refine g_getI C fX12_51 (by decide) dX12_reckons_40 kd_199 ?_
    refine g_imul C dX12_reckons_43 ?_
    refine g_iload_n (q := 1) C dX12_reckons_44 rfl rfl ?_
    refine g_iadd C dX12_reckons_45 ?_
    obtain ⟨g5, h⟩ := h
    refine g_iald C dX12_reckons_46 kd_215 ln_215 g5 ?_
    refine g_iadd C dX12_reckons_47 ?_
    obtain ⟨g6, h⟩ := h
    obtain ⟨g7, h⟩ := h
    obtain ⟨ht, hf⟩ := h
    refine g_icmp_ge (tgt := 227) C dX12_reckons_48 (by decide) g6 g7 (fun c => ?_) (fun c => ?_)
    · have h := ht c
      refine g_aload_n (q := 0) C dX12_reckons_227 rfl rfl ?_
      refine g_getS (v := 234) C fX12_186 dX12_reckons_228 kd_199 rfl ?_
      refine g_iconst C dX12_reckons_231 rfl ?_
      refine g_lald C dX12_reckons_232 kd_234 ln_234 (by decide) ?_
      exact g_retl C hR dX12_reckons_233 h
    · have h := hf c
      refine g_aload_n (q := 0) C dX12_reckons_51 rfl rfl ?_
      refine g_getS (v := 216) C fX12_99 dX12_reckons_52 kd_199 rfl ?_
      refine g_iload_n (q := 3) C dX12_reckons_55 rfl rfl ?_
      obtain ⟨g8, h⟩ := h
      refine g_iald C dX12_reckons_56 kd_216 ln_216 g8 ?_
      refine g_istore (lv' := [(4, vI (M 216 v3)), (0, vR Y 199), (1, vI v1), (2, vI v2), (3, vI v3)]) C dX12_reckons_57 (by decide) rfl ?_
      refine g_iload (q := 0) C dX12_reckons_59 rfl ?_
      refine g_bipush (v := 30) C dX12_reckons_61 (by decide +kernel) ?_
      obtain ⟨g9, h⟩ := h
      obtain ⟨ht, hf⟩ := h
      refine g_icmp_gt (tgt := 112) C dX12_reckons_63 (by decide) g9 (by decide) (fun c => ?_) (fun c => ?_)
      · have h := ht c
        refine g_iload (q := 0) C dX12_reckons_112 rfl ?_
        refine g_bipush (v := 43) C dX12_reckons_114 (by decide +kernel) ?_
        obtain ⟨g10, h⟩ := h
        obtain ⟨ht, hf⟩ := h
        refine g_icmp_ne (tgt := 140) C dX12_reckons_116 (by decide) g10 (by decide) (fun c => ?_) (fun c => ?_)
        · have h := hf c
          refine g_iload (q := 0) C dX12_reckons_140 rfl ?_
          refine g_bipush (v := 44) C dX12_reckons_142 (by decide +kernel) ?_
          obtain ⟨g11, h⟩ := h
          obtain ⟨ht, hf⟩ := h
          refine g_icmp_ne (tgt := 191) C dX12_reckons_144 (by decide) g11 (by decide) (fun c => ?_) (fun c => ?_)
          · have h := hf c
            refine g_iinc (q := 3) (v := v2 + (-1)) (lv' := [(2, vI (v2 + (-1))), (4, vI (M 216 v3)), (0, vR Y 199), (1, vI v1), (3, vI v3)]) C dX12_reckons_191 rfl rfl (by decide) rfl ?_
            refine g_aload_n (q := 2) C dX12_reckons_194 rfl rfl ?_
            refine g_getS (v := 234) C fX12_186 dX12_reckons_195 kd_199 rfl ?_
            refine g_iload_n (q := 0) C dX12_reckons_198 rfl rfl ?_
            refine g_iconst C dX12_reckons_199 rfl ?_
            refine g_isub C dX12_reckons_200 ?_
            refine g_iload (q := 1) C dX12_reckons_201 rfl ?_
            refine g_aload_n (q := 2) C dX12_reckons_203 rfl rfl ?_
            refine g_getS (v := 234) C fX12_186 dX12_reckons_204 kd_199 rfl ?_
            refine g_iload_n (q := 0) C dX12_reckons_207 rfl rfl ?_
            refine g_iconst C dX12_reckons_208 rfl ?_
            refine g_isub C dX12_reckons_209 ?_
            obtain ⟨g12, h⟩ := h
            refine g_lald C dX12_reckons_210 kd_234 ln_234 g12 ?_
            refine g_aload_n (q := 2) C dX12_reckons_211 rfl rfl ?_
            refine g_getS (v := 234) C fX12_186 dX12_reckons_212 kd_199 rfl ?_
            refine g_iload_n (q := 0) C dX12_reckons_215 rfl rfl ?_
            obtain ⟨g13, h⟩ := h
            refine g_lald C dX12_reckons_216 kd_234 ln_234 g13 ?_
            refine g_cSl (As := [vI (M 216 v3), vL (M 234 ((v2 + (-1)) - 1)), vL (M 234 (v2 + (-1)))]) C clX12_426 clsX12_two dX12_reckons_217 rfl (Nat.le_of_ble_eq_true rfl) rfl (by decide) (t_X12_two (Cx.ok C) h) (fun r15 M14 h => ?_)
            obtain ⟨g16, h⟩ := h
            obtain ⟨M17, e_M17⟩ : ∃ z : Mem, z = up M14 234 ((v2 + (-1)) - 1) r15 := ⟨_, rfl⟩
            have h := h M17 e_M17
            refine g_last C dX12_reckons_220 kd_234 ln_234 g16 e_M17 ?_
            refine G.sub [2, 3, 0, 4] rfl ?_
            exact w_X12_reckons_J221 C hR (ih)  h
          · have h := ht c
            refine g_iinc (q := 3) (v := v2 + (-2)) (lv' := [(2, vI (v2 + (-2))), (4, vI (M 216 v3)), (0, vR Y 199), (1, vI v1), (3, vI v3)]) C dX12_reckons_147 rfl rfl (by decide) rfl ?_
            refine g_aload_n (q := 2) C dX12_reckons_150 rfl rfl ?_
            refine g_getS (v := 234) C fX12_186 dX12_reckons_151 kd_199 rfl ?_
            refine g_iload_n (q := 0) C dX12_reckons_154 rfl rfl ?_
            refine g_iconst C dX12_reckons_155 rfl ?_
            refine g_isub C dX12_reckons_156 ?_
            refine g_aload_n (q := 2) C dX12_reckons_157 rfl rfl ?_
            refine g_getS (v := 234) C fX12_186 dX12_reckons_158 kd_199 rfl ?_
            refine g_iload_n (q := 0) C dX12_reckons_161 rfl rfl ?_
            refine g_iconst C dX12_reckons_162 rfl ?_
            refine g_isub C dX12_reckons_163 ?_
            obtain ⟨g18, h⟩ := h
            refine g_lald C dX12_reckons_164 kd_234 ln_234 g18 ?_
            refine g_lconst (v := 1) C dX12_reckons_165 (by decide +kernel) ?_
            obtain ⟨g19, h⟩ := h
            obtain ⟨ht, hf⟩ := h
            refine g_lcmp_ne (tgt := 179) C dX12_reckons_166 dX12_reckons_167 (by decide) g19 (by decide) (fun c => ?_) (fun c => ?_)
            · have h := hf c
              refine g_aload_n (q := 2) C dX12_reckons_179 rfl rfl ?_
              refine g_getS (v := 234) C fX12_186 dX12_reckons_180 kd_199 rfl ?_
              refine g_iload_n (q := 0) C dX12_reckons_183 rfl rfl ?_
              refine g_iconst C dX12_reckons_184 rfl ?_
              refine g_iadd C dX12_reckons_185 ?_
              obtain ⟨g20, h⟩ := h
              refine g_lald C dX12_reckons_186 kd_234 ln_234 g20 ?_
              refine G.sub [2, 3, 0, 4] rfl ?_
              exact w_X12_reckons_J187 C hR (ih) kd_234 h
            · have h := ht c
              refine g_aload_n (q := 2) C dX12_reckons_170 rfl rfl ?_
              refine g_getS (v := 234) C fX12_186 dX12_reckons_171 kd_199 rfl ?_
              refine g_iload_n (q := 0) C dX12_reckons_174 rfl rfl ?_
              obtain ⟨g21, h⟩ := h
              refine g_lald C dX12_reckons_175 kd_234 ln_234 g21 ?_
              refine g_goto (tgt := 187) C dX12_reckons_176 (by decide) ?_
              refine G.sub [2, 3, 0, 4] rfl ?_
              exact w_X12_reckons_J187 C hR (ih) kd_234 h
        · have h := ht c
          refine g_aload_n (q := 1) C dX12_reckons_119 rfl rfl ?_
          refine g_getS (v := 234) C fX12_186 dX12_reckons_120 kd_199 rfl ?_
          refine g_iload_n (q := 3) C dX12_reckons_123 rfl rfl ?_
          refine g_iconst C dX12_reckons_124 rfl ?_
          refine g_isub C dX12_reckons_125 ?_
          refine g_lconst (v := 1) C dX12_reckons_126 (by decide +kernel) ?_
          refine g_aload_n (q := 1) C dX12_reckons_127 rfl rfl ?_
          refine g_getS (v := 234) C fX12_186 dX12_reckons_128 kd_199 rfl ?_
          refine g_iload_n (q := 3) C dX12_reckons_131 rfl rfl ?_
          refine g_iconst C dX12_reckons_132 rfl ?_
          refine g_isub C dX12_reckons_133 ?_
          obtain ⟨g22, h⟩ := h
          refine g_lald C dX12_reckons_134 kd_234 ln_234 g22 ?_
          refine g_lsub C dX12_reckons_135 ?_
          obtain ⟨g23, h⟩ := h
          obtain ⟨M24, e_M24⟩ : ∃ z : Mem, z = up M 234 (v2 - 1) (1 - (M 234 (v2 - 1))) := ⟨_, rfl⟩
          have h := h M24 e_M24
          refine g_last C dX12_reckons_136 kd_234 ln_234 g23 e_M24 ?_
          refine g_goto (tgt := 221) C dX12_reckons_137 (by decide) ?_
          refine G.sub [1, 2, 3, 4] rfl ?_
          exact w_X12_reckons_J221 C hR (ih)  h
      · have h := hf c
        refine g_aload_n (q := 1) C dX12_reckons_66 rfl rfl ?_
        refine g_getS (v := 234) C fX12_186 dX12_reckons_67 kd_199 rfl ?_
        refine g_iload_n (q := 3) C dX12_reckons_70 rfl rfl ?_
        refine g_iload (q := 0) C dX12_reckons_71 rfl ?_
        obtain ⟨g25, h⟩ := h
        obtain ⟨ht, hf⟩ := h
        refine g_if_ne (tgt := 86) C dX12_reckons_73 (by decide) g25 (fun c => ?_) (fun c => ?_)
        · have h := hf c
          refine g_iload (q := 0) C dX12_reckons_86 rfl ?_
          refine g_bipush (v := 30) C dX12_reckons_88 (by decide +kernel) ?_
          obtain ⟨g26, h⟩ := h
          obtain ⟨ht, hf⟩ := h
          refine g_icmp_ne (tgt := 97) C dX12_reckons_90 (by decide) g26 (by decide) (fun c => ?_) (fun c => ?_)
          · have h := hf c
            refine g_aload_n (q := 1) C dX12_reckons_97 rfl rfl ?_
            refine g_getS (v := 235) C fX12_189 dX12_reckons_98 kd_199 rfl ?_
            refine g_iload (q := 0) C dX12_reckons_101 rfl ?_
            obtain ⟨g27, h⟩ := h
            refine g_iald C dX12_reckons_103 kd_235 ln_235 g27 ?_
            obtain ⟨g28, h⟩ := h
            refine g_i2l C dX12_reckons_104 g28 ?_
            refine G.sub [1, 2, 3, 4] rfl ?_
            exact w_X12_reckons_J105 C hR (ih) kd_234 h
          · have h := ht c
            refine g_lconst (v := 1) C dX12_reckons_93 (by decide +kernel) ?_
            refine g_goto (tgt := 105) C dX12_reckons_94 (by decide) ?_
            refine G.sub [1, 2, 3, 4] rfl ?_
            exact w_X12_reckons_J105 C hR (ih) kd_234 h
        · have h := ht c
          refine g_aload_n (q := 1) C dX12_reckons_76 rfl rfl ?_
          refine g_getS (v := 217) C fX12_102 dX12_reckons_77 kd_199 rfl ?_
          refine g_iload_n (q := 4) C dX12_reckons_80 rfl rfl ?_
          obtain ⟨g29, h⟩ := h
          refine g_iald C dX12_reckons_81 kd_217 ln_217 g29 ?_
          obtain ⟨g30, h⟩ := h
          refine g_i2l C dX12_reckons_82 g30 ?_
          refine g_goto (tgt := 105) C dX12_reckons_83 (by decide) ?_
          refine G.sub [1, 2, 3, 4] rfl ?_
          exact w_X12_reckons_J105 C hR (ih) kd_234 h
set_option maxRecDepth 20000 in
theorem t_X12_reckons {l : Launch} {Y : YT} (hY : YOK Y) {a0 : Int} {M : Mem} {Q : Int → Mem → Prop} (h : m_X12_reckons a0 M Q) : Ctr l Y yX12_reckons cX12_reckons 5 (some .long) 3 [vR Y 199, vI a0] M (PQl Y Q) := by
  unfold m_X12_reckons at h
  refine ctr_ofF hY (by decide +kernel) (Nat.le_of_ble_eq_true rfl) [(0, vR Y 199), (1, vI a0)] rfl (fun X hX C hR => ?_)
  refine g_iconst C dX12_reckons_0 rfl ?_
  refine g_istore_n (lv' := [(2, vI 0), (0, vR Y 199), (1, vI a0)]) C dX12_reckons_1 rfl (by decide) rfl ?_
  refine g_sipush (v := 1600) C dX12_reckons_2 (by decide +kernel) ?_
  refine g_aload_n (q := 1) C dX12_reckons_5 rfl rfl ?_
  refine g_getI C fX12_51 (by decide) dX12_reckons_6 kd_199 ?_
  refine g_imul C dX12_reckons_9 ?_
  refine g_aload_n (q := 1) C dX12_reckons_10 rfl rfl ?_
  refine g_getS (v := 214) C fX12_93 dX12_reckons_11 kd_199 rfl ?_
  refine g_iconst C dX12_reckons_14 rfl ?_
  refine g_aload_n (q := 1) C dX12_reckons_15 rfl rfl ?_
  refine g_getI C fX12_51 (by decide) dX12_reckons_16 kd_199 ?_
  refine g_imul C dX12_reckons_19 ?_
  refine g_iload_n (q := 2) C dX12_reckons_20 rfl rfl ?_
  refine g_iadd C dX12_reckons_21 ?_
  obtain ⟨g31, h⟩ := h
  refine g_iald C dX12_reckons_22 kd_214 ln_214 g31 ?_
  refine g_iadd C dX12_reckons_23 ?_
  obtain ⟨x32, e_x32⟩ : ∃ z : Int, z = (1600 * (M 199 13)) + (M 214 ((2 * (M 199 13)) + a0)) := ⟨_, rfl⟩
  have h := h x32 e_x32
  refine G.nmI e_x32 ?_
  refine g_istore_n (lv' := [(3, vI x32), (2, vI 0), (0, vR Y 199), (1, vI a0)]) C dX12_reckons_24 rfl (by decide) rfl ?_
  obtain ⟨f0, h⟩ := h
  refine G.sub [2, 3, 1, 0] rfl ?_
  exact w_X12_reckons_L25 C hR  f0 _ _ _ h
