theorem kd_0 : kd 0 = 11 := by decide +kernel
theorem kd_1 : kd 1 = 7 := by decide +kernel
theorem kd_2 : kd 2 = 20 := by decide +kernel
theorem ln_2 : ln 2 = 1600 := by decide +kernel
theorem kd_3 : kd 3 = 20 := by decide +kernel
theorem ln_3 : ln 3 = 24 := by decide +kernel
theorem kd_4 : kd 4 = 9 := by decide +kernel
theorem kd_5 : kd 5 = 2 := by decide +kernel
theorem kd_6 : kd 6 = 8 := by decide +kernel
theorem kd_7 : kd 7 = 20 := by decide +kernel
theorem ln_7 : ln 7 = 7 := by decide +kernel
theorem kd_8 : kd 8 = 20 := by decide +kernel
theorem ln_8 : ln 8 = 7 := by decide +kernel
theorem kd_9 : kd 9 = 20 := by decide +kernel
theorem ln_9 : ln 9 = 49 := by decide +kernel
theorem kd_10 : kd 10 = 20 := by decide +kernel
theorem ln_10 : ln 10 = 6 := by decide +kernel
theorem kd_11 : kd 11 = 20 := by decide +kernel
theorem ln_11 : ln 11 = 6 := by decide +kernel
theorem kd_12 : kd 12 = 20 := by decide +kernel
theorem ln_12 : ln 12 = 6 := by decide +kernel
theorem kd_13 : kd 13 = 5 := by decide +kernel
theorem kd_14 : kd 14 = 20 := by decide +kernel
theorem ln_14 : ln 14 = 9 := by decide +kernel
theorem kd_15 : kd 15 = 20 := by decide +kernel
theorem ln_15 : ln 15 = 9 := by decide +kernel
theorem kd_16 : kd 16 = 20 := by decide +kernel
theorem ln_16 : ln 16 = 9 := by decide +kernel
theorem kd_17 : kd 17 = 1 := by decide +kernel
theorem kd_18 : kd 18 = 20 := by decide +kernel
theorem ln_18 : ln 18 = 1600 := by decide +kernel
theorem kd_19 : kd 19 = 20 := by decide +kernel
theorem ln_19 : ln 19 = 64 := by decide +kernel
theorem kd_20 : kd 20 = 1 := by decide +kernel
theorem kd_21 : kd 21 = 20 := by decide +kernel
theorem ln_21 : ln 21 = 1600 := by decide +kernel
theorem kd_22 : kd 22 = 20 := by decide +kernel
theorem ln_22 : ln 22 = 64 := by decide +kernel
theorem kd_23 : kd 23 = 8 := by decide +kernel
theorem kd_24 : kd 24 = 20 := by decide +kernel
theorem ln_24 : ln 24 = 7 := by decide +kernel
theorem kd_25 : kd 25 = 20 := by decide +kernel
theorem ln_25 : ln 25 = 7 := by decide +kernel
theorem kd_26 : kd 26 = 20 := by decide +kernel
theorem ln_26 : ln 26 = 49 := by decide +kernel
theorem kd_27 : kd 27 = 20 := by decide +kernel
theorem ln_27 : ln 27 = 6 := by decide +kernel
theorem kd_28 : kd 28 = 20 := by decide +kernel
theorem ln_28 : ln 28 = 6 := by decide +kernel
theorem kd_29 : kd 29 = 20 := by decide +kernel
theorem ln_29 : ln 29 = 6 := by decide +kernel
theorem kd_30 : kd 30 = 5 := by decide +kernel
theorem kd_31 : kd 31 = 20 := by decide +kernel
theorem ln_31 : ln 31 = 9 := by decide +kernel
theorem kd_32 : kd 32 = 20 := by decide +kernel
theorem ln_32 : ln 32 = 9 := by decide +kernel
theorem kd_33 : kd 33 = 20 := by decide +kernel
theorem ln_33 : ln 33 = 9 := by decide +kernel
theorem kd_34 : kd 34 = 1 := by decide +kernel
theorem kd_35 : kd 35 = 20 := by decide +kernel
theorem ln_35 : ln 35 = 1600 := by decide +kernel
theorem kd_36 : kd 36 = 20 := by decide +kernel
theorem ln_36 : ln 36 = 64 := by decide +kernel
theorem kd_37 : kd 37 = 1 := by decide +kernel
theorem kd_38 : kd 38 = 20 := by decide +kernel
theorem ln_38 : ln 38 = 1600 := by decide +kernel
theorem kd_39 : kd 39 = 20 := by decide +kernel
theorem ln_39 : ln 39 = 64 := by decide +kernel
theorem kd_40 : kd 40 = 6 := by decide +kernel
theorem kd_41 : kd 41 = 20 := by decide +kernel
theorem ln_41 : ln 41 = 6 := by decide +kernel
theorem kd_42 : kd 42 = 5 := by decide +kernel
theorem kd_43 : kd 43 = 20 := by decide +kernel
theorem ln_43 : ln 43 = 9 := by decide +kernel
theorem kd_44 : kd 44 = 20 := by decide +kernel
theorem ln_44 : ln 44 = 9 := by decide +kernel
theorem kd_45 : kd 45 = 20 := by decide +kernel
theorem ln_45 : ln 45 = 9 := by decide +kernel
theorem kd_46 : kd 46 = 6 := by decide +kernel
theorem kd_47 : kd 47 = 20 := by decide +kernel
theorem ln_47 : ln 47 = 6 := by decide +kernel
theorem kd_48 : kd 48 = 5 := by decide +kernel
theorem kd_49 : kd 49 = 20 := by decide +kernel
theorem ln_49 : ln 49 = 9 := by decide +kernel
theorem kd_50 : kd 50 = 20 := by decide +kernel
theorem ln_50 : ln 50 = 9 := by decide +kernel
theorem kd_51 : kd 51 = 20 := by decide +kernel
theorem ln_51 : ln 51 = 9 := by decide +kernel
theorem kd_52 : kd 52 = 10 := by decide +kernel
theorem kd_53 : kd 53 = 20 := by decide +kernel
theorem ln_53 : ln 53 = 54 := by decide +kernel
theorem kd_54 : kd 54 = 20 := by decide +kernel
theorem ln_54 : ln 54 = 63 := by decide +kernel
theorem kd_55 : kd 55 = 20 := by decide +kernel
theorem ln_55 : ln 55 = 63 := by decide +kernel
theorem kd_56 : kd 56 = 20 := by decide +kernel
theorem ln_56 : ln 56 = 7 := by decide +kernel
theorem kd_57 : kd 57 = 10 := by decide +kernel
theorem kd_58 : kd 58 = 20 := by decide +kernel
theorem ln_58 : ln 58 = 54 := by decide +kernel
theorem kd_59 : kd 59 = 20 := by decide +kernel
theorem ln_59 : ln 59 = 63 := by decide +kernel
theorem kd_60 : kd 60 = 20 := by decide +kernel
theorem ln_60 : ln 60 = 63 := by decide +kernel
theorem kd_61 : kd 61 = 20 := by decide +kernel
theorem ln_61 : ln 61 = 7 := by decide +kernel
theorem kd_62 : kd 62 = 3 := by decide +kernel
theorem kd_63 : kd 63 = 23 := by decide +kernel
theorem ln_63 : ln 63 = 20 := by decide +kernel
theorem kd_64 : kd 64 = 20 := by decide +kernel
theorem ln_64 : ln 64 = 2997 := by decide +kernel
theorem kd_65 : kd 65 = 6 := by decide +kernel
theorem kd_66 : kd 66 = 20 := by decide +kernel
theorem ln_66 : ln 66 = 6 := by decide +kernel
theorem kd_67 : kd 67 = 5 := by decide +kernel
theorem kd_68 : kd 68 = 20 := by decide +kernel
theorem ln_68 : ln 68 = 9 := by decide +kernel
theorem kd_69 : kd 69 = 20 := by decide +kernel
theorem ln_69 : ln 69 = 9 := by decide +kernel
theorem kd_70 : kd 70 = 20 := by decide +kernel
theorem ln_70 : ln 70 = 9 := by decide +kernel
theorem kd_71 : kd 71 = 6 := by decide +kernel
theorem kd_72 : kd 72 = 20 := by decide +kernel
theorem ln_72 : ln 72 = 6 := by decide +kernel
theorem kd_73 : kd 73 = 5 := by decide +kernel
theorem kd_74 : kd 74 = 20 := by decide +kernel
theorem ln_74 : ln 74 = 9 := by decide +kernel
theorem kd_75 : kd 75 = 20 := by decide +kernel
theorem ln_75 : ln 75 = 9 := by decide +kernel
theorem kd_76 : kd 76 = 20 := by decide +kernel
theorem ln_76 : ln 76 = 9 := by decide +kernel
theorem kd_77 : kd 77 = 6 := by decide +kernel
theorem kd_78 : kd 78 = 20 := by decide +kernel
theorem ln_78 : ln 78 = 6 := by decide +kernel
theorem kd_79 : kd 79 = 5 := by decide +kernel
theorem kd_80 : kd 80 = 20 := by decide +kernel
theorem ln_80 : ln 80 = 9 := by decide +kernel
theorem kd_81 : kd 81 = 20 := by decide +kernel
theorem ln_81 : ln 81 = 9 := by decide +kernel
theorem kd_82 : kd 82 = 20 := by decide +kernel
theorem ln_82 : ln 82 = 9 := by decide +kernel
theorem kd_83 : kd 83 = 6 := by decide +kernel
theorem kd_84 : kd 84 = 20 := by decide +kernel
theorem ln_84 : ln 84 = 6 := by decide +kernel
theorem kd_85 : kd 85 = 5 := by decide +kernel
theorem kd_86 : kd 86 = 20 := by decide +kernel
theorem ln_86 : ln 86 = 9 := by decide +kernel
theorem kd_87 : kd 87 = 20 := by decide +kernel
theorem ln_87 : ln 87 = 9 := by decide +kernel
theorem kd_88 : kd 88 = 20 := by decide +kernel
theorem ln_88 : ln 88 = 9 := by decide +kernel
theorem kd_89 : kd 89 = 6 := by decide +kernel
theorem kd_90 : kd 90 = 20 := by decide +kernel
theorem ln_90 : ln 90 = 6 := by decide +kernel
theorem kd_91 : kd 91 = 5 := by decide +kernel
theorem kd_92 : kd 92 = 20 := by decide +kernel
theorem ln_92 : ln 92 = 9 := by decide +kernel
theorem kd_93 : kd 93 = 20 := by decide +kernel
theorem ln_93 : ln 93 = 9 := by decide +kernel
theorem kd_94 : kd 94 = 20 := by decide +kernel
theorem ln_94 : ln 94 = 9 := by decide +kernel
theorem kd_95 : kd 95 = 6 := by decide +kernel
theorem kd_96 : kd 96 = 20 := by decide +kernel
theorem ln_96 : ln 96 = 6 := by decide +kernel
theorem kd_97 : kd 97 = 5 := by decide +kernel
theorem kd_98 : kd 98 = 20 := by decide +kernel
theorem ln_98 : ln 98 = 9 := by decide +kernel
theorem kd_99 : kd 99 = 20 := by decide +kernel
theorem ln_99 : ln 99 = 9 := by decide +kernel
theorem kd_100 : kd 100 = 20 := by decide +kernel
theorem ln_100 : ln 100 = 9 := by decide +kernel
theorem kd_101 : kd 101 = 6 := by decide +kernel
theorem kd_102 : kd 102 = 20 := by decide +kernel
theorem ln_102 : ln 102 = 6 := by decide +kernel
theorem kd_103 : kd 103 = 5 := by decide +kernel
theorem kd_104 : kd 104 = 20 := by decide +kernel
theorem ln_104 : ln 104 = 9 := by decide +kernel
theorem kd_105 : kd 105 = 20 := by decide +kernel
theorem ln_105 : ln 105 = 9 := by decide +kernel
theorem kd_106 : kd 106 = 20 := by decide +kernel
theorem ln_106 : ln 106 = 9 := by decide +kernel
theorem kd_107 : kd 107 = 6 := by decide +kernel
theorem kd_108 : kd 108 = 20 := by decide +kernel
theorem ln_108 : ln 108 = 6 := by decide +kernel
theorem kd_109 : kd 109 = 5 := by decide +kernel
theorem kd_110 : kd 110 = 20 := by decide +kernel
theorem ln_110 : ln 110 = 9 := by decide +kernel
theorem kd_111 : kd 111 = 20 := by decide +kernel
theorem ln_111 : ln 111 = 9 := by decide +kernel
theorem kd_112 : kd 112 = 20 := by decide +kernel
theorem ln_112 : ln 112 = 9 := by decide +kernel
theorem kd_113 : kd 113 = 6 := by decide +kernel
theorem kd_114 : kd 114 = 20 := by decide +kernel
theorem ln_114 : ln 114 = 6 := by decide +kernel
theorem kd_115 : kd 115 = 5 := by decide +kernel
theorem kd_116 : kd 116 = 20 := by decide +kernel
theorem ln_116 : ln 116 = 9 := by decide +kernel
theorem kd_117 : kd 117 = 20 := by decide +kernel
theorem ln_117 : ln 117 = 9 := by decide +kernel
theorem kd_118 : kd 118 = 20 := by decide +kernel
theorem ln_118 : ln 118 = 9 := by decide +kernel
theorem kd_119 : kd 119 = 6 := by decide +kernel
theorem kd_120 : kd 120 = 20 := by decide +kernel
theorem ln_120 : ln 120 = 6 := by decide +kernel
theorem kd_121 : kd 121 = 5 := by decide +kernel
theorem kd_122 : kd 122 = 20 := by decide +kernel
theorem ln_122 : ln 122 = 9 := by decide +kernel
theorem kd_123 : kd 123 = 20 := by decide +kernel
theorem ln_123 : ln 123 = 9 := by decide +kernel
theorem kd_124 : kd 124 = 20 := by decide +kernel
theorem ln_124 : ln 124 = 9 := by decide +kernel
theorem kd_125 : kd 125 = 6 := by decide +kernel
theorem kd_126 : kd 126 = 20 := by decide +kernel
theorem ln_126 : ln 126 = 6 := by decide +kernel
theorem kd_127 : kd 127 = 5 := by decide +kernel
theorem kd_128 : kd 128 = 20 := by decide +kernel
theorem ln_128 : ln 128 = 9 := by decide +kernel
theorem kd_129 : kd 129 = 20 := by decide +kernel
theorem ln_129 : ln 129 = 9 := by decide +kernel
theorem kd_130 : kd 130 = 20 := by decide +kernel
theorem ln_130 : ln 130 = 9 := by decide +kernel
theorem kd_131 : kd 131 = 6 := by decide +kernel
theorem kd_132 : kd 132 = 20 := by decide +kernel
theorem ln_132 : ln 132 = 6 := by decide +kernel
theorem kd_133 : kd 133 = 5 := by decide +kernel
theorem kd_134 : kd 134 = 20 := by decide +kernel
theorem ln_134 : ln 134 = 9 := by decide +kernel
theorem kd_135 : kd 135 = 20 := by decide +kernel
theorem ln_135 : ln 135 = 9 := by decide +kernel
theorem kd_136 : kd 136 = 20 := by decide +kernel
theorem ln_136 : ln 136 = 9 := by decide +kernel
theorem kd_137 : kd 137 = 6 := by decide +kernel
theorem kd_138 : kd 138 = 20 := by decide +kernel
theorem ln_138 : ln 138 = 6 := by decide +kernel
theorem kd_139 : kd 139 = 5 := by decide +kernel
theorem kd_140 : kd 140 = 20 := by decide +kernel
theorem ln_140 : ln 140 = 9 := by decide +kernel
theorem kd_141 : kd 141 = 20 := by decide +kernel
theorem ln_141 : ln 141 = 9 := by decide +kernel
theorem kd_142 : kd 142 = 20 := by decide +kernel
theorem ln_142 : ln 142 = 9 := by decide +kernel
theorem kd_143 : kd 143 = 6 := by decide +kernel
theorem kd_144 : kd 144 = 20 := by decide +kernel
theorem ln_144 : ln 144 = 6 := by decide +kernel
theorem kd_145 : kd 145 = 5 := by decide +kernel
theorem kd_146 : kd 146 = 20 := by decide +kernel
theorem ln_146 : ln 146 = 9 := by decide +kernel
theorem kd_147 : kd 147 = 20 := by decide +kernel
theorem ln_147 : ln 147 = 9 := by decide +kernel
theorem kd_148 : kd 148 = 20 := by decide +kernel
theorem ln_148 : ln 148 = 9 := by decide +kernel
theorem kd_149 : kd 149 = 6 := by decide +kernel
theorem kd_150 : kd 150 = 20 := by decide +kernel
theorem ln_150 : ln 150 = 6 := by decide +kernel
theorem kd_151 : kd 151 = 5 := by decide +kernel
theorem kd_152 : kd 152 = 20 := by decide +kernel
theorem ln_152 : ln 152 = 9 := by decide +kernel
theorem kd_153 : kd 153 = 20 := by decide +kernel
theorem ln_153 : ln 153 = 9 := by decide +kernel
theorem kd_154 : kd 154 = 20 := by decide +kernel
theorem ln_154 : ln 154 = 9 := by decide +kernel
theorem kd_155 : kd 155 = 6 := by decide +kernel
theorem kd_156 : kd 156 = 20 := by decide +kernel
theorem ln_156 : ln 156 = 6 := by decide +kernel
theorem kd_157 : kd 157 = 5 := by decide +kernel
theorem kd_158 : kd 158 = 20 := by decide +kernel
theorem ln_158 : ln 158 = 9 := by decide +kernel
theorem kd_159 : kd 159 = 20 := by decide +kernel
theorem ln_159 : ln 159 = 9 := by decide +kernel
theorem kd_160 : kd 160 = 20 := by decide +kernel
theorem ln_160 : ln 160 = 9 := by decide +kernel
theorem kd_161 : kd 161 = 6 := by decide +kernel
theorem kd_162 : kd 162 = 20 := by decide +kernel
theorem ln_162 : ln 162 = 6 := by decide +kernel
theorem kd_163 : kd 163 = 5 := by decide +kernel
theorem kd_164 : kd 164 = 20 := by decide +kernel
theorem ln_164 : ln 164 = 9 := by decide +kernel
theorem kd_165 : kd 165 = 20 := by decide +kernel
theorem ln_165 : ln 165 = 9 := by decide +kernel
theorem kd_166 : kd 166 = 20 := by decide +kernel
theorem ln_166 : ln 166 = 9 := by decide +kernel
theorem kd_167 : kd 167 = 6 := by decide +kernel
theorem kd_168 : kd 168 = 20 := by decide +kernel
theorem ln_168 : ln 168 = 6 := by decide +kernel
theorem kd_169 : kd 169 = 5 := by decide +kernel
theorem kd_170 : kd 170 = 20 := by decide +kernel
theorem ln_170 : ln 170 = 9 := by decide +kernel
theorem kd_171 : kd 171 = 20 := by decide +kernel
theorem ln_171 : ln 171 = 9 := by decide +kernel
theorem kd_172 : kd 172 = 20 := by decide +kernel
theorem ln_172 : ln 172 = 9 := by decide +kernel
theorem kd_173 : kd 173 = 6 := by decide +kernel
theorem kd_174 : kd 174 = 20 := by decide +kernel
theorem ln_174 : ln 174 = 6 := by decide +kernel
theorem kd_175 : kd 175 = 5 := by decide +kernel
theorem kd_176 : kd 176 = 20 := by decide +kernel
theorem ln_176 : ln 176 = 9 := by decide +kernel
theorem kd_177 : kd 177 = 20 := by decide +kernel
theorem ln_177 : ln 177 = 9 := by decide +kernel
theorem kd_178 : kd 178 = 20 := by decide +kernel
theorem ln_178 : ln 178 = 9 := by decide +kernel
theorem kd_179 : kd 179 = 6 := by decide +kernel
theorem kd_180 : kd 180 = 20 := by decide +kernel
theorem ln_180 : ln 180 = 6 := by decide +kernel
theorem kd_181 : kd 181 = 5 := by decide +kernel
theorem kd_182 : kd 182 = 20 := by decide +kernel
theorem ln_182 : ln 182 = 9 := by decide +kernel
theorem kd_183 : kd 183 = 20 := by decide +kernel
theorem ln_183 : ln 183 = 9 := by decide +kernel
theorem kd_184 : kd 184 = 20 := by decide +kernel
theorem ln_184 : ln 184 = 9 := by decide +kernel
theorem kd_185 : kd 185 = 4 := by decide +kernel
theorem kd_186 : kd 186 = 20 := by decide +kernel
theorem ln_186 : ln 186 = 40 := by decide +kernel
theorem kd_187 : kd 187 = 0 := by decide +kernel
theorem kd_188 : kd 188 = 20 := by decide +kernel
theorem ln_188 : ln 188 = 48 := by decide +kernel
theorem kd_189 : kd 189 = 24 := by decide +kernel
theorem ln_189 : ln 189 = 7 := by decide +kernel
theorem kd_190 : kd 190 = 20 := by decide +kernel
theorem ln_190 : ln 190 = 56 := by decide +kernel
theorem kd_191 : kd 191 = 20 := by decide +kernel
theorem ln_191 : ln 191 = 56 := by decide +kernel
theorem kd_192 : kd 192 = 20 := by decide +kernel
theorem ln_192 : ln 192 = 56 := by decide +kernel
theorem kd_193 : kd 193 = 20 := by decide +kernel
theorem ln_193 : ln 193 = 56 := by decide +kernel
theorem kd_194 : kd 194 = 20 := by decide +kernel
theorem ln_194 : ln 194 = 56 := by decide +kernel
theorem kd_195 : kd 195 = 20 := by decide +kernel
theorem ln_195 : ln 195 = 56 := by decide +kernel
theorem kd_196 : kd 196 = 20 := by decide +kernel
theorem ln_196 : ln 196 = 56 := by decide +kernel
theorem kd_197 : kd 197 = 20 := by decide +kernel
theorem ln_197 : ln 197 = 7 := by decide +kernel
theorem kd_198 : kd 198 = 20 := by decide +kernel
theorem ln_198 : ln 198 = 6 := by decide +kernel
theorem kd_199 : kd 199 = 12 := by decide +kernel
theorem kd_200 : kd 200 = 20 := by decide +kernel
theorem ln_200 : ln 200 = 1800 := by decide +kernel
theorem kd_201 : kd 201 = 20 := by decide +kernel
theorem ln_201 : ln 201 = 2 := by decide +kernel
theorem kd_202 : kd 202 = 20 := by decide +kernel
theorem ln_202 : ln 202 = 2 := by decide +kernel
theorem kd_203 : kd 203 = 20 := by decide +kernel
theorem ln_203 : ln 203 = 98 := by decide +kernel
theorem kd_204 : kd 204 = 20 := by decide +kernel
theorem ln_204 : ln 204 = 98 := by decide +kernel
theorem kd_205 : kd 205 = 20 := by decide +kernel
theorem ln_205 : ln 205 = 2 := by decide +kernel
theorem kd_206 : kd 206 = 20 := by decide +kernel
theorem ln_206 : ln 206 = 12 := by decide +kernel
theorem kd_207 : kd 207 = 20 := by decide +kernel
theorem ln_207 : ln 207 = 12 := by decide +kernel
theorem kd_208 : kd 208 = 20 := by decide +kernel
theorem ln_208 : ln 208 = 2 := by decide +kernel
theorem kd_209 : kd 209 = 20 := by decide +kernel
theorem ln_209 : ln 209 = 2 := by decide +kernel
theorem kd_210 : kd 210 = 20 := by decide +kernel
theorem ln_210 : ln 210 = 16 := by decide +kernel
theorem kd_211 : kd 211 = 20 := by decide +kernel
theorem ln_211 : ln 211 = 16 := by decide +kernel
theorem kd_212 : kd 212 = 20 := by decide +kernel
theorem ln_212 : ln 212 = 16 := by decide +kernel
theorem kd_213 : kd 213 = 20 := by decide +kernel
theorem ln_213 : ln 213 = 2 := by decide +kernel
theorem kd_214 : kd 214 = 20 := by decide +kernel
theorem ln_214 : ln 214 = 4 := by decide +kernel
theorem kd_215 : kd 215 = 20 := by decide +kernel
theorem ln_215 : ln 215 = 4 := by decide +kernel
theorem kd_216 : kd 216 = 20 := by decide +kernel
theorem ln_216 : ln 216 = 3200 := by decide +kernel
theorem kd_217 : kd 217 = 20 := by decide +kernel
theorem ln_217 : ln 217 = 3200 := by decide +kernel
theorem kd_218 : kd 218 = 21 := by decide +kernel
theorem ln_218 : ln 218 = 14 := by decide +kernel
theorem kd_219 : kd 219 = 21 := by decide +kernel
theorem ln_219 : ln 219 = 12 := by decide +kernel
theorem kd_220 : kd 220 = 20 := by decide +kernel
theorem ln_220 : ln 220 = 20 := by decide +kernel
theorem kd_221 : kd 221 = 20 := by decide +kernel
theorem ln_221 : ln 221 = 20 := by decide +kernel
theorem kd_222 : kd 222 = 22 := by decide +kernel
theorem ln_222 : ln 222 = 20 := by decide +kernel
theorem kd_223 : kd 223 = 20 := by decide +kernel
theorem ln_223 : ln 223 = 20 := by decide +kernel
theorem kd_224 : kd 224 = 20 := by decide +kernel
theorem ln_224 : ln 224 = 20 := by decide +kernel
theorem kd_225 : kd 225 = 20 := by decide +kernel
theorem ln_225 : ln 225 = 500 := by decide +kernel
theorem kd_226 : kd 226 = 20 := by decide +kernel
theorem ln_226 : ln 226 = 6 := by decide +kernel
theorem kd_227 : kd 227 = 20 := by decide +kernel
theorem ln_227 : ln 227 = 22 := by decide +kernel
theorem kd_228 : kd 228 = 20 := by decide +kernel
theorem ln_228 : ln 228 = 132 := by decide +kernel
theorem kd_229 : kd 229 = 20 := by decide +kernel
theorem ln_229 : ln 229 = 22 := by decide +kernel
theorem kd_230 : kd 230 = 20 := by decide +kernel
theorem ln_230 : ln 230 = 22 := by decide +kernel
theorem kd_231 : kd 231 = 20 := by decide +kernel
theorem ln_231 : ln 231 = 594 := by decide +kernel
theorem kd_232 : kd 232 = 20 := by decide +kernel
theorem ln_232 : ln 232 = 22 := by decide +kernel
theorem kd_233 : kd 233 = 20 := by decide +kernel
theorem ln_233 : ln 233 = 2640 := by decide +kernel
theorem kd_234 : kd 234 = 21 := by decide +kernel
theorem ln_234 : ln 234 = 500 := by decide +kernel
theorem kd_235 : kd 235 = 20 := by decide +kernel
theorem ln_235 : ln 235 = 12 := by decide +kernel
theorem kd_236 : kd 236 = 20 := by decide +kernel
theorem ln_236 : ln 236 = 54 := by decide +kernel
theorem kd_237 : kd 237 = 20 := by decide +kernel
theorem ln_237 : ln 237 = 16 := by decide +kernel
theorem kd_238 : kd 238 = 20 := by decide +kernel
theorem ln_238 : ln 238 = 16 := by decide +kernel
theorem kd_239 : kd 239 = 20 := by decide +kernel
theorem ln_239 : ln 239 = 16 := by decide +kernel
theorem kd_240 : kd 240 = 20 := by decide +kernel
theorem ln_240 : ln 240 = 441 := by decide +kernel
theorem kd_241 : kd 241 = 20 := by decide +kernel
theorem ln_241 : ln 241 = 60 := by decide +kernel
theorem kd_all {P : Int → Prop} (h : ∀ a, a < NT → P (a : Nat)) {r : Int} {k : Nat} (hr : kd r = k) (hk : k < 99) : P r := by
  obtain ⟨r0, r1, r2⟩ := kd_in hr hk
  have := h _ r1
  rwa [toNat_i r0] at this
theorem sub_1_0 {o : Int} (h : kd o = 1) : kd (o + 1) = 20 ∧ ln (o + 1) = 1600 := kd_all (P := fun o => kd o = 1 → kd (o + 1) = 20 ∧ ln (o + 1) = 1600) (by decide +kernel) h (by decide) h
theorem sub_1_1 {o : Int} (h : kd o = 1) : kd (o + 2) = 20 ∧ ln (o + 2) = 64 := kd_all (P := fun o => kd o = 1 → kd (o + 2) = 20 ∧ ln (o + 2) = 64) (by decide +kernel) h (by decide) h
theorem sub_5_1 {o : Int} (h : kd o = 5) : kd (o + 1) = 20 ∧ ln (o + 1) = 9 := kd_all (P := fun o => kd o = 5 → kd (o + 1) = 20 ∧ ln (o + 1) = 9) (by decide +kernel) h (by decide) h
theorem sub_5_2 {o : Int} (h : kd o = 5) : kd (o + 2) = 20 ∧ ln (o + 2) = 9 := kd_all (P := fun o => kd o = 5 → kd (o + 2) = 20 ∧ ln (o + 2) = 9) (by decide +kernel) h (by decide) h
theorem sub_5_3 {o : Int} (h : kd o = 5) : kd (o + 3) = 20 ∧ ln (o + 3) = 9 := kd_all (P := fun o => kd o = 5 → kd (o + 3) = 20 ∧ ln (o + 3) = 9) (by decide +kernel) h (by decide) h
theorem sub_6_1 {o : Int} (h : kd o = 6) : kd (o + 1) = 20 ∧ ln (o + 1) = 6 := kd_all (P := fun o => kd o = 6 → kd (o + 1) = 20 ∧ ln (o + 1) = 6) (by decide +kernel) h (by decide) h
theorem sub_6_3 {o : Int} (h : kd o = 6) : kd (o + 2) = 5 := kd_all (P := fun o => kd o = 6 → kd (o + 2) = 5) (by decide +kernel) h (by decide) h
theorem sub_8_1 {o : Int} (h : kd o = 8) : kd (o + 1) = 20 ∧ ln (o + 1) = 7 := kd_all (P := fun o => kd o = 8 → kd (o + 1) = 20 ∧ ln (o + 1) = 7) (by decide +kernel) h (by decide) h
theorem sub_8_3 {o : Int} (h : kd o = 8) : kd (o + 2) = 20 ∧ ln (o + 2) = 7 := kd_all (P := fun o => kd o = 8 → kd (o + 2) = 20 ∧ ln (o + 2) = 7) (by decide +kernel) h (by decide) h
theorem sub_8_4 {o : Int} (h : kd o = 8) : kd (o + 3) = 20 ∧ ln (o + 3) = 49 := kd_all (P := fun o => kd o = 8 → kd (o + 3) = 20 ∧ ln (o + 3) = 49) (by decide +kernel) h (by decide) h
theorem sub_8_6 {o : Int} (h : kd o = 8) : kd (o + 4) = 20 ∧ ln (o + 4) = 6 := kd_all (P := fun o => kd o = 8 → kd (o + 4) = 20 ∧ ln (o + 4) = 6) (by decide +kernel) h (by decide) h
theorem sub_8_7 {o : Int} (h : kd o = 8) : kd (o + 5) = 20 ∧ ln (o + 5) = 6 := kd_all (P := fun o => kd o = 8 → kd (o + 5) = 20 ∧ ln (o + 5) = 6) (by decide +kernel) h (by decide) h
theorem sub_8_8 {o : Int} (h : kd o = 8) : kd (o + 6) = 20 ∧ ln (o + 6) = 6 := kd_all (P := fun o => kd o = 8 → kd (o + 6) = 20 ∧ ln (o + 6) = 6) (by decide +kernel) h (by decide) h
theorem sub_8_10 {o : Int} (h : kd o = 8) : kd (o + 7) = 5 := kd_all (P := fun o => kd o = 8 → kd (o + 7) = 5) (by decide +kernel) h (by decide) h
theorem sub_8_12 {o : Int} (h : kd o = 8) : kd (o + 11) = 1 := kd_all (P := fun o => kd o = 8 → kd (o + 11) = 1) (by decide +kernel) h (by decide) h
theorem sub_8_13 {o : Int} (h : kd o = 8) : kd (o + 14) = 1 := kd_all (P := fun o => kd o = 8 → kd (o + 14) = 1) (by decide +kernel) h (by decide) h
theorem sub_10_0 {o : Int} (h : kd o = 10) : kd (o + 1) = 20 ∧ ln (o + 1) = 54 := kd_all (P := fun o => kd o = 10 → kd (o + 1) = 20 ∧ ln (o + 1) = 54) (by decide +kernel) h (by decide) h
theorem sub_10_1 {o : Int} (h : kd o = 10) : kd (o + 2) = 20 ∧ ln (o + 2) = 63 := kd_all (P := fun o => kd o = 10 → kd (o + 2) = 20 ∧ ln (o + 2) = 63) (by decide +kernel) h (by decide) h
theorem sub_10_2 {o : Int} (h : kd o = 10) : kd (o + 3) = 20 ∧ ln (o + 3) = 63 := kd_all (P := fun o => kd o = 10 → kd (o + 3) = 20 ∧ ln (o + 3) = 63) (by decide +kernel) h (by decide) h
theorem sub_10_3 {o : Int} (h : kd o = 10) : kd (o + 4) = 20 ∧ ln (o + 4) = 7 := kd_all (P := fun o => kd o = 10 → kd (o + 4) = 20 ∧ ln (o + 4) = 7) (by decide +kernel) h (by decide) h
theorem sc_in {i : Int} (h : 0 ≤ i ∧ i < 20) : kd (63 + 2 + 6 * i) = 6 := by
  have : ∀ j : Nat, j < 20 → kd (63 + 2 + 6 * (j : Int)) = 6 := by decide +kernel
  have e := this i.toNat (by omega)
  rwa [toNat_i h.1] at e
theorem gr_in {i : Int} (h : 0 ≤ i ∧ i < 7) : kd (189 + 1 + i) = 20 ∧ ln (189 + 1 + i) = 56 := by
  have : ∀ j : Nat, j < 7 → kd (189 + 1 + (j : Int)) = 20 ∧ ln (189 + 1 + (j : Int)) = 56 := by decide +kernel
  have e := this i.toNat (by omega)
  rwa [toNat_i h.1] at e
theorem uX0 : ∀ w ∈ u_ws RX0 TX0 8, w ∈ GT := by decide +kernel
theorem uX1 : ∀ w ∈ u_ws RX1 TX1 3, w ∈ GT := by decide +kernel
theorem uX2 : ∀ w ∈ u_ws RX2 TX2 3, w ∈ GT := by decide +kernel
theorem uX3 : ∀ w ∈ u_ws RX3 TX3 4, w ∈ GT := by decide +kernel
theorem uX4 : ∀ w ∈ u_ws RX4 TX4 2, w ∈ GT := by decide +kernel
theorem uX5 : ∀ w ∈ u_ws RX5 TX5 4, w ∈ GT := by decide +kernel
theorem uX6 : ∀ w ∈ u_ws RX6 TX6 5, w ∈ GT := by decide +kernel
theorem uX7 : ∀ w ∈ u_ws RX7 TX7 11, w ∈ GT := by decide +kernel
theorem uX8 : ∀ w ∈ u_ws RX8 TX8 14, w ∈ GT := by decide +kernel
theorem uX9 : ∀ w ∈ u_ws RX9 TX9 4, w ∈ GT := by decide +kernel
theorem uX10 : ∀ w ∈ u_ws RX10 TX10 6, w ∈ GT := by decide +kernel
theorem uX11 : ∀ w ∈ u_ws RX11 TX11 14, w ∈ GT := by decide +kernel
theorem uX12 : ∀ w ∈ u_ws RX12 TX12 67, w ∈ GT := by decide +kernel
theorem fX11_10 : Fld RX11 10 11 0 (4, 1) := ⟨RX11, TX11, 14, tyX11, rfl, uX11, by decide, gt_in 549 (by decide +kernel) (by decide +kernel), rfl, rfl, by decide, tyX11_ok, nmX11⟩
theorem fX11_21 : Fld RX11 21 11 1 (4, 4) := ⟨RX11, TX11, 14, tyX11, rfl, uX11, by decide, gt_in 550 (by decide +kernel) (by decide +kernel), rfl, rfl, by decide, tyX11_ok, nmX11⟩
theorem fX11_28 : Fld RX11 28 11 2 (3, 0) := ⟨RX11, TX11, 14, tyX11, rfl, uX11, by decide, gt_in 551 (by decide +kernel) (by decide +kernel), rfl, rfl, by decide, tyX11_ok, nmX11⟩
theorem fX11_32 : Fld RX11 32 11 3 (3, 0) := ⟨RX11, TX11, 14, tyX11, rfl, uX11, by decide, gt_in 552 (by decide +kernel) (by decide +kernel), rfl, rfl, by decide, tyX11_ok, nmX11⟩
theorem fX11_38 : Fld RX11 38 11 4 (4, 40) := ⟨RX11, TX11, 14, tyX11, rfl, uX11, by decide, gt_in 553 (by decide +kernel) (by decide +kernel), rfl, rfl, by decide, tyX11_ok, nmX11⟩
theorem fX11_42 : Fld RX11 42 11 5 (4, 46) := ⟨RX11, TX11, 14, tyX11, rfl, uX11, by decide, gt_in 554 (by decide +kernel) (by decide +kernel), rfl, rfl, by decide, tyX11_ok, nmX11⟩
theorem fX11_48 : Fld RX11 48 11 6 (4, 52) := ⟨RX11, TX11, 14, tyX11, rfl, uX11, by decide, gt_in 555 (by decide +kernel) (by decide +kernel), rfl, rfl, by decide, tyX11_ok, nmX11⟩
theorem fX11_52 : Fld RX11 52 11 7 (4, 57) := ⟨RX11, TX11, 14, tyX11, rfl, uX11, by decide, gt_in 556 (by decide +kernel) (by decide +kernel), rfl, rfl, by decide, tyX11_ok, nmX11⟩
theorem fX11_58 : Fld RX11 58 11 9 (4, 62) := ⟨RX11, TX11, 14, tyX11, rfl, uX11, by decide, gt_in 558 (by decide +kernel) (by decide +kernel), rfl, rfl, by decide, tyX11_ok, nmX11⟩
theorem fX11_65 : Fld RX11 65 11 10 (4, 185) := ⟨RX11, TX11, 14, tyX11, rfl, uX11, by decide, gt_in 559 (by decide +kernel) (by decide +kernel), rfl, rfl, by decide, tyX11_ok, nmX11⟩
theorem fX11_72 : Fld RX11 72 11 11 (4, 187) := ⟨RX11, TX11, 14, tyX11, rfl, uX11, by decide, gt_in 560 (by decide +kernel) (by decide +kernel), rfl, rfl, by decide, tyX11_ok, nmX11⟩
theorem fX11_76 : Fld RX11 76 11 12 (4, 198) := ⟨RX11, TX11, 14, tyX11, rfl, uX11, by decide, gt_in 561 (by decide +kernel) (by decide +kernel), rfl, rfl, by decide, tyX11_ok, nmX11⟩
theorem fX11_80 : Fld RX11 80 11 13 (0, 0) := ⟨RX11, TX11, 14, tyX11, rfl, uX11, by decide, gt_in 562 (by decide +kernel) (by decide +kernel), rfl, rfl, by decide, tyX11_ok, nmX11⟩
theorem fX11_84 : Fld RX11 84 7 1 (0, 0) := ⟨RX7, TX7, 11, tyX7, rfl, uX7, by decide, gt_in 199 (by decide +kernel) (by decide +kernel), rfl, rfl, by decide, tyX7_ok, nmX7⟩
theorem fX11_110 : Fld RX11 110 0 1 (0, 0) := ⟨RX0, TX0, 8, tyX0, rfl, uX0, by decide, gt_in 521 (by decide +kernel) (by decide +kernel), rfl, rfl, by decide, tyX0_ok, nmX0⟩
theorem fX11_113 : Fld RX11 113 11 8 (2, 0) := ⟨RX11, TX11, 14, tyX11, rfl, uX11, by decide, gt_in 557 (by decide +kernel) (by decide +kernel), rfl, rfl, by decide, tyX11_ok, nmX11⟩
theorem fX11_117 : Fld RX11 117 7 6 (0, 0) := ⟨RX7, TX7, 11, tyX7, rfl, uX7, by decide, gt_in 214 (by decide +kernel) (by decide +kernel), rfl, rfl, by decide, tyX7_ok, nmX7⟩
theorem fX11_120 : Fld RX11 120 7 7 (0, 0) := ⟨RX7, TX7, 11, tyX7, rfl, uX7, by decide, gt_in 216 (by decide +kernel) (by decide +kernel), rfl, rfl, by decide, tyX7_ok, nmX7⟩
theorem fX11_123 : Fld RX11 123 8 0 (0, 0) := ⟨RX8, TX8, 14, tyX8, rfl, uX8, by decide, gt_in 343 (by decide +kernel) (by decide +kernel), rfl, rfl, by decide, tyX8_ok, nmX8⟩
theorem fX11_126 : Fld RX11 126 8 2 (0, 0) := ⟨RX8, TX8, 14, tyX8, rfl, uX8, by decide, gt_in 349 (by decide +kernel) (by decide +kernel), rfl, rfl, by decide, tyX8_ok, nmX8⟩
theorem fX11_129 : Fld RX11 129 8 5 (0, 0) := ⟨RX8, TX8, 14, tyX8, rfl, uX8, by decide, gt_in 356 (by decide +kernel) (by decide +kernel), rfl, rfl, by decide, tyX8_ok, nmX8⟩
theorem fX11_132 : Fld RX11 132 6 0 (0, 0) := ⟨RX6, TX6, 5, tyX6, rfl, uX6, by decide, gt_in 420 (by decide +kernel) (by decide +kernel), rfl, rfl, by decide, tyX6_ok, nmX6⟩
theorem fX11_135 : Fld RX11 135 6 3 (4, 2) := ⟨RX6, TX6, 5, tyX6, rfl, uX6, by decide, gt_in 432 (by decide +kernel) (by decide +kernel), rfl, rfl, by decide, tyX6_ok, nmX6⟩
theorem fX11_139 : Fld RX11 139 5 0 (0, 0) := ⟨RX5, TX5, 4, tyX5, rfl, uX5, by decide, gt_in 298 (by decide +kernel) (by decide +kernel), rfl, rfl, by decide, tyX5_ok, nmX5⟩
theorem fX11_144 : Fld RX11 144 6 2 (0, 0) := ⟨RX6, TX6, 5, tyX6, rfl, uX6, by decide, gt_in 427 (by decide +kernel) (by decide +kernel), rfl, rfl, by decide, tyX6_ok, nmX6⟩
theorem fX11_164 : Fld RX11 164 3 2 (0, 0) := ⟨RX3, TX3, 4, tyX3, rfl, uX3, by decide, gt_in 485 (by decide +kernel) (by decide +kernel), rfl, rfl, by decide, tyX3_ok, nmX3⟩
theorem fX11_170 : Fld RX11 170 8 1 (4, 1) := ⟨RX8, TX8, 14, tyX8, rfl, uX8, by decide, gt_in 346 (by decide +kernel) (by decide +kernel), rfl, rfl, by decide, tyX8_ok, nmX8⟩
theorem fX11_180 : Fld RX11 180 8 6 (4, 4) := ⟨RX8, TX8, 14, tyX8, rfl, uX8, by decide, gt_in 358 (by decide +kernel) (by decide +kernel), rfl, rfl, by decide, tyX8_ok, nmX8⟩
theorem fX11_186 : Fld RX11 186 6 1 (4, 1) := ⟨RX6, TX6, 5, tyX6, rfl, uX6, by decide, gt_in 424 (by decide +kernel) (by decide +kernel), rfl, rfl, by decide, tyX6_ok, nmX6⟩
theorem fX11_189 : Fld RX11 189 8 8 (4, 6) := ⟨RX8, TX8, 14, tyX8, rfl, uX8, by decide, gt_in 363 (by decide +kernel) (by decide +kernel), rfl, rfl, by decide, tyX8_ok, nmX8⟩
theorem fX11_198 : Fld RX11 198 5 1 (4, 1) := ⟨RX5, TX5, 4, tyX5, rfl, uX5, by decide, gt_in 303 (by decide +kernel) (by decide +kernel), rfl, rfl, by decide, tyX5_ok, nmX5⟩
theorem fX11_201 : Fld RX11 201 5 2 (4, 2) := ⟨RX5, TX5, 4, tyX5, rfl, uX5, by decide, gt_in 307 (by decide +kernel) (by decide +kernel), rfl, rfl, by decide, tyX5_ok, nmX5⟩
theorem fX11_204 : Fld RX11 204 5 3 (4, 3) := ⟨RX5, TX5, 4, tyX5, rfl, uX5, by decide, gt_in 311 (by decide +kernel) (by decide +kernel), rfl, rfl, by decide, tyX5_ok, nmX5⟩
theorem fX11_271 : Fld RX11 271 0 4 (0, 0) := ⟨RX0, TX0, 8, tyX0, rfl, uX0, by decide, gt_in 525 (by decide +kernel) (by decide +kernel), rfl, rfl, by decide, tyX0_ok, nmX0⟩
theorem fX11_274 : Fld RX11 274 0 5 (0, 0) := ⟨RX0, TX0, 8, tyX0, rfl, uX0, by decide, gt_in 527 (by decide +kernel) (by decide +kernel), rfl, rfl, by decide, tyX0_ok, nmX0⟩
theorem fX11_277 : Fld RX11 277 0 6 (0, 0) := ⟨RX0, TX0, 8, tyX0, rfl, uX0, by decide, gt_in 529 (by decide +kernel) (by decide +kernel), rfl, rfl, by decide, tyX0_ok, nmX0⟩
theorem fX11_280 : Fld RX11 280 0 7 (0, 0) := ⟨RX0, TX0, 8, tyX0, rfl, uX0, by decide, gt_in 531 (by decide +kernel) (by decide +kernel), rfl, rfl, by decide, tyX0_ok, nmX0⟩
theorem fX11_306 : Fld RX11 306 6 4 (0, 0) := ⟨RX6, TX6, 5, tyX6, rfl, uX6, by decide, gt_in 436 (by decide +kernel) (by decide +kernel), rfl, rfl, by decide, tyX6_ok, nmX6⟩
theorem fX11_315 : Fld RX11 315 4 1 (0, 0) := ⟨RX4, TX4, 2, tyX4, rfl, uX4, by decide, gt_in 505 (by decide +kernel) (by decide +kernel), rfl, rfl, by decide, tyX4_ok, nmX4⟩
theorem fX11_316 : Fld RX11 316 4 0 (4, 1) := ⟨RX4, TX4, 2, tyX4, rfl, uX4, by decide, gt_in 503 (by decide +kernel) (by decide +kernel), rfl, rfl, by decide, tyX4_ok, nmX4⟩
theorem fX11_344 : Fld RX11 344 8 11 (0, 0) := ⟨RX8, TX8, 14, tyX8, rfl, uX8, by decide, gt_in 372 (by decide +kernel) (by decide +kernel), rfl, rfl, by decide, tyX8_ok, nmX8⟩
theorem pX11_28 : Fpt RX11 28 11 2 (.object "SilentReel$Town") := ⟨RX11, TX11, 14, rfl, gt_in 551 (by decide +kernel) (by decide +kernel), rfl, by decide +kernel⟩
theorem pX11_32 : Fpt RX11 32 11 3 (.object "SilentReel$Town") := ⟨RX11, TX11, 14, rfl, gt_in 552 (by decide +kernel) (by decide +kernel), rfl, by decide +kernel⟩
theorem pX11_80 : Fpt RX11 80 11 13 .int := ⟨RX11, TX11, 14, rfl, gt_in 562 (by decide +kernel) (by decide +kernel), rfl, by decide +kernel⟩
theorem pX11_84 : Fpt RX11 84 7 1 .int := ⟨RX7, TX7, 11, rfl, gt_in 199 (by decide +kernel) (by decide +kernel), rfl, by decide +kernel⟩
theorem pX11_110 : Fpt RX11 110 0 1 .int := ⟨RX0, TX0, 8, rfl, gt_in 521 (by decide +kernel) (by decide +kernel), rfl, by decide +kernel⟩
theorem pX11_113 : Fpt RX11 113 11 8 .boolean := ⟨RX11, TX11, 14, rfl, gt_in 557 (by decide +kernel) (by decide +kernel), rfl, by decide +kernel⟩
theorem pX11_144 : Fpt RX11 144 6 2 .int := ⟨RX6, TX6, 5, rfl, gt_in 427 (by decide +kernel) (by decide +kernel), rfl, by decide +kernel⟩
theorem fX0_11 : Fld RX0 11 0 0 (4, 1) := ⟨RX0, TX0, 8, tyX0, rfl, uX0, by decide, gt_in 519 (by decide +kernel) (by decide +kernel), rfl, rfl, by decide, tyX0_ok, nmX0⟩
theorem fX0_17 : Fld RX0 17 0 2 (4, 2) := ⟨RX0, TX0, 8, tyX0, rfl, uX0, by decide, gt_in 522 (by decide +kernel) (by decide +kernel), rfl, rfl, by decide, tyX0_ok, nmX0⟩
theorem fX0_20 : Fld RX0 20 0 3 (4, 10) := ⟨RX0, TX0, 8, tyX0, rfl, uX0, by decide, gt_in 523 (by decide +kernel) (by decide +kernel), rfl, rfl, by decide, tyX0_ok, nmX0⟩
theorem fX0_23 : Fld RX0 23 7 0 (4, 1) := ⟨RX7, TX7, 11, tyX7, rfl, uX7, by decide, gt_in 197 (by decide +kernel) (by decide +kernel), rfl, rfl, by decide, tyX7_ok, nmX7⟩
theorem fX0_28 : Fld RX0 28 7 1 (0, 0) := ⟨RX7, TX7, 11, tyX7, rfl, uX7, by decide, gt_in 200 (by decide +kernel) (by decide +kernel), rfl, rfl, by decide, tyX7_ok, nmX7⟩
theorem fX0_36 : Fld RX0 36 8 0 (0, 0) := ⟨RX8, TX8, 14, tyX8, rfl, uX8, by decide, gt_in 340 (by decide +kernel) (by decide +kernel), rfl, rfl, by decide, tyX8_ok, nmX8⟩
theorem fX0_47 : Fld RX0 47 0 1 (0, 0) := ⟨RX0, TX0, 8, tyX0, rfl, uX0, by decide, gt_in 520 (by decide +kernel) (by decide +kernel), rfl, rfl, by decide, tyX0_ok, nmX0⟩
theorem fX0_50 : Fld RX0 50 0 4 (0, 0) := ⟨RX0, TX0, 8, tyX0, rfl, uX0, by decide, gt_in 524 (by decide +kernel) (by decide +kernel), rfl, rfl, by decide, tyX0_ok, nmX0⟩
theorem fX0_59 : Fld RX0 59 0 7 (0, 0) := ⟨RX0, TX0, 8, tyX0, rfl, uX0, by decide, gt_in 530 (by decide +kernel) (by decide +kernel), rfl, rfl, by decide, tyX0_ok, nmX0⟩
theorem pX0_47 : Fpt RX0 47 0 1 .int := ⟨RX0, TX0, 8, rfl, gt_in 520 (by decide +kernel) (by decide +kernel), rfl, by decide +kernel⟩
theorem pX0_50 : Fpt RX0 50 0 4 .int := ⟨RX0, TX0, 8, rfl, gt_in 524 (by decide +kernel) (by decide +kernel), rfl, by decide +kernel⟩
theorem fX0_53 : Fld RX0 53 0 5 (0, 0) := ⟨RX0, TX0, 8, tyX0, rfl, uX0, by decide, gt_in 526 (by decide +kernel) (by decide +kernel), rfl, rfl, by decide, tyX0_ok, nmX0⟩
theorem pX0_53 : Fpt RX0 53 0 5 .int := ⟨RX0, TX0, 8, rfl, gt_in 526 (by decide +kernel) (by decide +kernel), rfl, by decide +kernel⟩
theorem fX0_56 : Fld RX0 56 0 6 (0, 0) := ⟨RX0, TX0, 8, tyX0, rfl, uX0, by decide, gt_in 528 (by decide +kernel) (by decide +kernel), rfl, rfl, by decide, tyX0_ok, nmX0⟩
theorem pX0_56 : Fpt RX0 56 0 6 .int := ⟨RX0, TX0, 8, rfl, gt_in 528 (by decide +kernel) (by decide +kernel), rfl, by decide +kernel⟩
theorem pX0_59 : Fpt RX0 59 0 7 .int := ⟨RX0, TX0, 8, rfl, gt_in 530 (by decide +kernel) (by decide +kernel), rfl, by decide +kernel⟩
theorem fX1_9 : Fld RX1 9 1 0 (4, 1) := ⟨RX1, TX1, 3, tyX1, rfl, uX1, by decide, gt_in 327 (by decide +kernel) (by decide +kernel), rfl, rfl, by decide, tyX1_ok, nmX1⟩
theorem fX1_15 : Fld RX1 15 1 1 (4, 2) := ⟨RX1, TX1, 3, tyX1, rfl, uX1, by decide, gt_in 328 (by decide +kernel) (by decide +kernel), rfl, rfl, by decide, tyX1_ok, nmX1⟩
theorem fX1_18 : Fld RX1 18 1 2 (0, 0) := ⟨RX1, TX1, 3, tyX1, rfl, uX1, by decide, gt_in 329 (by decide +kernel) (by decide +kernel), rfl, rfl, by decide, tyX1_ok, nmX1⟩
theorem pX1_18 : Fpt RX1 18 1 2 .int := ⟨RX1, TX1, 3, rfl, gt_in 329 (by decide +kernel) (by decide +kernel), rfl, by decide +kernel⟩
theorem fX2_9 : Fld RX2 9 2 0 (4, -4) := ⟨RX2, TX2, 3, tyX2, rfl, uX2, by decide, gt_in 257 (by decide +kernel) (by decide +kernel), rfl, rfl, by decide, tyX2_ok, nmX2⟩
theorem fX2_15 : Fld RX2 15 2 1 (3, 0) := ⟨RX2, TX2, 3, tyX2, rfl, uX2, by decide, gt_in 258 (by decide +kernel) (by decide +kernel), rfl, rfl, by decide, tyX2_ok, nmX2⟩
theorem fX2_19 : Fld RX2 19 2 2 (2, 0) := ⟨RX2, TX2, 3, tyX2, rfl, uX2, by decide, gt_in 259 (by decide +kernel) (by decide +kernel), rfl, rfl, by decide, tyX2_ok, nmX2⟩
theorem fX2_79 : Fld RX2 79 7 2 (0, 0) := ⟨RX7, TX7, 11, tyX7, rfl, uX7, by decide, gt_in 205 (by decide +kernel) (by decide +kernel), rfl, rfl, by decide, tyX7_ok, nmX7⟩
theorem fX2_83 : Fld RX2 83 7 4 (0, 0) := ⟨RX7, TX7, 11, tyX7, rfl, uX7, by decide, gt_in 209 (by decide +kernel) (by decide +kernel), rfl, rfl, by decide, tyX7_ok, nmX7⟩
theorem fX2_86 : Fld RX2 86 7 5 (0, 0) := ⟨RX7, TX7, 11, tyX7, rfl, uX7, by decide, gt_in 212 (by decide +kernel) (by decide +kernel), rfl, rfl, by decide, tyX7_ok, nmX7⟩
theorem pX2_15 : Fpt RX2 15 2 1 (.object "SilentReel$Formula") := ⟨RX2, TX2, 3, rfl, gt_in 258 (by decide +kernel) (by decide +kernel), rfl, by decide +kernel⟩
theorem pX2_19 : Fpt RX2 19 2 2 .boolean := ⟨RX2, TX2, 3, rfl, gt_in 259 (by decide +kernel) (by decide +kernel), rfl, by decide +kernel⟩
theorem fX3_13 : Fld RX3 13 3 0 (4, 1) := ⟨RX3, TX3, 4, tyX3, rfl, uX3, by decide, gt_in 482 (by decide +kernel) (by decide +kernel), rfl, rfl, by decide, tyX3_ok, nmX3⟩
theorem fX3_17 : Fld RX3 17 3 3 (4, 2) := ⟨RX3, TX3, 4, tyX3, rfl, uX3, by decide, gt_in 486 (by decide +kernel) (by decide +kernel), rfl, rfl, by decide, tyX3_ok, nmX3⟩
theorem fX3_22 : Fld RX3 22 3 2 (0, 0) := ⟨RX3, TX3, 4, tyX3, rfl, uX3, by decide, gt_in 484 (by decide +kernel) (by decide +kernel), rfl, rfl, by decide, tyX3_ok, nmX3⟩
theorem fX3_26 : Fld RX3 26 3 1 (0, 0) := ⟨RX3, TX3, 4, tyX3, rfl, uX3, by decide, gt_in 483 (by decide +kernel) (by decide +kernel), rfl, rfl, by decide, tyX3_ok, nmX3⟩
theorem fX3_39 : Fld RX3 39 6 4 (0, 0) := ⟨RX6, TX6, 5, tyX6, rfl, uX6, by decide, gt_in 434 (by decide +kernel) (by decide +kernel), rfl, rfl, by decide, tyX6_ok, nmX6⟩
theorem fX3_42 : Fld RX3 42 6 0 (0, 0) := ⟨RX6, TX6, 5, tyX6, rfl, uX6, by decide, gt_in 418 (by decide +kernel) (by decide +kernel), rfl, rfl, by decide, tyX6_ok, nmX6⟩
theorem fX3_45 : Fld RX3 45 6 3 (4, 2) := ⟨RX6, TX6, 5, tyX6, rfl, uX6, by decide, gt_in 431 (by decide +kernel) (by decide +kernel), rfl, rfl, by decide, tyX6_ok, nmX6⟩
theorem fX3_49 : Fld RX3 49 5 0 (0, 0) := ⟨RX5, TX5, 4, tyX5, rfl, uX5, by decide, gt_in 296 (by decide +kernel) (by decide +kernel), rfl, rfl, by decide, tyX5_ok, nmX5⟩
theorem pX3_22 : Fpt RX3 22 3 2 .int := ⟨RX3, TX3, 4, rfl, gt_in 484 (by decide +kernel) (by decide +kernel), rfl, by decide +kernel⟩
theorem pX3_26 : Fpt RX3 26 3 1 .int := ⟨RX3, TX3, 4, rfl, gt_in 483 (by decide +kernel) (by decide +kernel), rfl, by decide +kernel⟩
theorem pX3_39 : Fpt RX3 39 6 4 .int := ⟨RX6, TX6, 5, rfl, gt_in 434 (by decide +kernel) (by decide +kernel), rfl, by decide +kernel⟩
theorem fX4_11 : Fld RX4 11 4 0 (4, 1) := ⟨RX4, TX4, 2, tyX4, rfl, uX4, by decide, gt_in 502 (by decide +kernel) (by decide +kernel), rfl, rfl, by decide, tyX4_ok, nmX4⟩
theorem fX4_15 : Fld RX4 15 4 1 (0, 0) := ⟨RX4, TX4, 2, tyX4, rfl, uX4, by decide, gt_in 504 (by decide +kernel) (by decide +kernel), rfl, rfl, by decide, tyX4_ok, nmX4⟩
theorem fX4_19 : Fld RX4 19 6 0 (0, 0) := ⟨RX6, TX6, 5, tyX6, rfl, uX6, by decide, gt_in 417 (by decide +kernel) (by decide +kernel), rfl, rfl, by decide, tyX6_ok, nmX6⟩
theorem fX4_28 : Fld RX4 28 8 5 (0, 0) := ⟨RX8, TX8, 14, tyX8, rfl, uX8, by decide, gt_in 354 (by decide +kernel) (by decide +kernel), rfl, rfl, by decide, tyX8_ok, nmX8⟩
theorem fX4_33 : Fld RX4 33 6 1 (4, 1) := ⟨RX6, TX6, 5, tyX6, rfl, uX6, by decide, gt_in 422 (by decide +kernel) (by decide +kernel), rfl, rfl, by decide, tyX6_ok, nmX6⟩
theorem fX4_40 : Fld RX4 40 6 3 (4, 2) := ⟨RX6, TX6, 5, tyX6, rfl, uX6, by decide, gt_in 429 (by decide +kernel) (by decide +kernel), rfl, rfl, by decide, tyX6_ok, nmX6⟩
theorem fX4_44 : Fld RX4 44 5 0 (0, 0) := ⟨RX5, TX5, 4, tyX5, rfl, uX5, by decide, gt_in 294 (by decide +kernel) (by decide +kernel), rfl, rfl, by decide, tyX5_ok, nmX5⟩
theorem fX4_49 : Fld RX4 49 5 1 (4, 1) := ⟨RX5, TX5, 4, tyX5, rfl, uX5, by decide, gt_in 301 (by decide +kernel) (by decide +kernel), rfl, rfl, by decide, tyX5_ok, nmX5⟩
theorem fX4_52 : Fld RX4 52 5 2 (4, 2) := ⟨RX5, TX5, 4, tyX5, rfl, uX5, by decide, gt_in 305 (by decide +kernel) (by decide +kernel), rfl, rfl, by decide, tyX5_ok, nmX5⟩
theorem fX4_55 : Fld RX4 55 5 3 (4, 3) := ⟨RX5, TX5, 4, tyX5, rfl, uX5, by decide, gt_in 309 (by decide +kernel) (by decide +kernel), rfl, rfl, by decide, tyX5_ok, nmX5⟩
theorem fX4_62 : Fld RX4 62 7 0 (4, 1) := ⟨RX7, TX7, 11, tyX7, rfl, uX7, by decide, gt_in 198 (by decide +kernel) (by decide +kernel), rfl, rfl, by decide, tyX7_ok, nmX7⟩
theorem fX4_65 : Fld RX4 65 7 1 (0, 0) := ⟨RX7, TX7, 11, tyX7, rfl, uX7, by decide, gt_in 202 (by decide +kernel) (by decide +kernel), rfl, rfl, by decide, tyX7_ok, nmX7⟩
theorem fX4_77 : Fld RX4 77 6 2 (0, 0) := ⟨RX6, TX6, 5, tyX6, rfl, uX6, by decide, gt_in 426 (by decide +kernel) (by decide +kernel), rfl, rfl, by decide, tyX6_ok, nmX6⟩
theorem fX4_80 : Fld RX4 80 8 0 (0, 0) := ⟨RX8, TX8, 14, tyX8, rfl, uX8, by decide, gt_in 342 (by decide +kernel) (by decide +kernel), rfl, rfl, by decide, tyX8_ok, nmX8⟩
theorem pX4_15 : Fpt RX4 15 4 1 .int := ⟨RX4, TX4, 2, rfl, gt_in 504 (by decide +kernel) (by decide +kernel), rfl, by decide +kernel⟩
theorem pX4_19 : Fpt RX4 19 6 0 .int := ⟨RX6, TX6, 5, rfl, gt_in 417 (by decide +kernel) (by decide +kernel), rfl, by decide +kernel⟩
theorem pX4_44 : Fpt RX4 44 5 0 .int := ⟨RX5, TX5, 4, rfl, gt_in 294 (by decide +kernel) (by decide +kernel), rfl, by decide +kernel⟩
theorem fX4_66 : Fld RX4 66 6 4 (0, 0) := ⟨RX6, TX6, 5, tyX6, rfl, uX6, by decide, gt_in 435 (by decide +kernel) (by decide +kernel), rfl, rfl, by decide, tyX6_ok, nmX6⟩
theorem pX4_66 : Fpt RX4 66 6 4 .int := ⟨RX6, TX6, 5, rfl, gt_in 435 (by decide +kernel) (by decide +kernel), rfl, by decide +kernel⟩
theorem pX4_77 : Fpt RX4 77 6 2 .int := ⟨RX6, TX6, 5, rfl, gt_in 426 (by decide +kernel) (by decide +kernel), rfl, by decide +kernel⟩
theorem fX5_9 : Fld RX5 9 5 1 (4, 1) := ⟨RX5, TX5, 4, tyX5, rfl, uX5, by decide, gt_in 300 (by decide +kernel) (by decide +kernel), rfl, rfl, by decide, tyX5_ok, nmX5⟩
theorem fX5_15 : Fld RX5 15 5 2 (4, 2) := ⟨RX5, TX5, 4, tyX5, rfl, uX5, by decide, gt_in 304 (by decide +kernel) (by decide +kernel), rfl, rfl, by decide, tyX5_ok, nmX5⟩
theorem fX5_18 : Fld RX5 18 5 3 (4, 3) := ⟨RX5, TX5, 4, tyX5, rfl, uX5, by decide, gt_in 308 (by decide +kernel) (by decide +kernel), rfl, rfl, by decide, tyX5_ok, nmX5⟩
theorem fX5_21 : Fld RX5 21 5 0 (0, 0) := ⟨RX5, TX5, 4, tyX5, rfl, uX5, by decide, gt_in 292 (by decide +kernel) (by decide +kernel), rfl, rfl, by decide, tyX5_ok, nmX5⟩
theorem pX5_21 : Fpt RX5 21 5 0 .int := ⟨RX5, TX5, 4, rfl, gt_in 292 (by decide +kernel) (by decide +kernel), rfl, by decide +kernel⟩
theorem fX6_9 : Fld RX6 9 6 1 (4, 1) := ⟨RX6, TX6, 5, tyX6, rfl, uX6, by decide, gt_in 421 (by decide +kernel) (by decide +kernel), rfl, rfl, by decide, tyX6_ok, nmX6⟩
theorem fX6_18 : Fld RX6 18 6 3 (4, 2) := ⟨RX6, TX6, 5, tyX6, rfl, uX6, by decide, gt_in 428 (by decide +kernel) (by decide +kernel), rfl, rfl, by decide, tyX6_ok, nmX6⟩
theorem fX6_22 : Fld RX6 22 6 0 (0, 0) := ⟨RX6, TX6, 5, tyX6, rfl, uX6, by decide, gt_in 416 (by decide +kernel) (by decide +kernel), rfl, rfl, by decide, tyX6_ok, nmX6⟩
theorem fX6_26 : Fld RX6 26 8 7 (4, 5) := ⟨RX8, TX8, 14, tyX8, rfl, uX8, by decide, gt_in 360 (by decide +kernel) (by decide +kernel), rfl, rfl, by decide, tyX8_ok, nmX8⟩
theorem fX6_37 : Fld RX6 37 8 9 (0, 0) := ⟨RX8, TX8, 14, tyX8, rfl, uX8, by decide, gt_in 365 (by decide +kernel) (by decide +kernel), rfl, rfl, by decide, tyX8_ok, nmX8⟩
theorem fX6_40 : Fld RX6 40 6 2 (0, 0) := ⟨RX6, TX6, 5, tyX6, rfl, uX6, by decide, gt_in 425 (by decide +kernel) (by decide +kernel), rfl, rfl, by decide, tyX6_ok, nmX6⟩
theorem fX6_41 : Fld RX6 41 8 10 (4, 7) := ⟨RX8, TX8, 14, tyX8, rfl, uX8, by decide, gt_in 368 (by decide +kernel) (by decide +kernel), rfl, rfl, by decide, tyX8_ok, nmX8⟩
theorem fX6_46 : Fld RX6 46 6 4 (0, 0) := ⟨RX6, TX6, 5, tyX6, rfl, uX6, by decide, gt_in 433 (by decide +kernel) (by decide +kernel), rfl, rfl, by decide, tyX6_ok, nmX6⟩
theorem pX6_22 : Fpt RX6 22 6 0 .int := ⟨RX6, TX6, 5, rfl, gt_in 416 (by decide +kernel) (by decide +kernel), rfl, by decide +kernel⟩
theorem pX6_40 : Fpt RX6 40 6 2 .int := ⟨RX6, TX6, 5, rfl, gt_in 425 (by decide +kernel) (by decide +kernel), rfl, by decide +kernel⟩
theorem pX6_46 : Fpt RX6 46 6 4 .int := ⟨RX6, TX6, 5, rfl, gt_in 433 (by decide +kernel) (by decide +kernel), rfl, by decide +kernel⟩
theorem fX6_55 : Fld RX6 55 5 0 (0, 0) := ⟨RX5, TX5, 4, tyX5, rfl, uX5, by decide, gt_in 297 (by decide +kernel) (by decide +kernel), rfl, rfl, by decide, tyX5_ok, nmX5⟩
theorem pX6_55 : Fpt RX6 55 5 0 .int := ⟨RX5, TX5, 4, rfl, gt_in 297 (by decide +kernel) (by decide +kernel), rfl, by decide +kernel⟩
theorem fX7_9 : Fld RX7 9 7 0 (4, 1) := ⟨RX7, TX7, 11, tyX7, rfl, uX7, by decide, gt_in 196 (by decide +kernel) (by decide +kernel), rfl, rfl, by decide, tyX7_ok, nmX7⟩
theorem fX7_19 : Fld RX7 19 7 8 (4, 2) := ⟨RX7, TX7, 11, tyX7, rfl, uX7, by decide, gt_in 217 (by decide +kernel) (by decide +kernel), rfl, rfl, by decide, tyX7_ok, nmX7⟩
theorem fX7_34 : Fld RX7 34 7 1 (0, 0) := ⟨RX7, TX7, 11, tyX7, rfl, uX7, by decide, gt_in 201 (by decide +kernel) (by decide +kernel), rfl, rfl, by decide, tyX7_ok, nmX7⟩
theorem fX7_40 : Fld RX7 40 7 9 (0, 0) := ⟨RX7, TX7, 11, tyX7, rfl, uX7, by decide, gt_in 218 (by decide +kernel) (by decide +kernel), rfl, rfl, by decide, tyX7_ok, nmX7⟩
theorem fX7_43 : Fld RX7 43 7 2 (0, 0) := ⟨RX7, TX7, 11, tyX7, rfl, uX7, by decide, gt_in 204 (by decide +kernel) (by decide +kernel), rfl, rfl, by decide, tyX7_ok, nmX7⟩
theorem fX7_49 : Fld RX7 49 7 3 (0, 0) := ⟨RX7, TX7, 11, tyX7, rfl, uX7, by decide, gt_in 206 (by decide +kernel) (by decide +kernel), rfl, rfl, by decide, tyX7_ok, nmX7⟩
theorem fX7_52 : Fld RX7 52 7 10 (0, 0) := ⟨RX7, TX7, 11, tyX7, rfl, uX7, by decide, gt_in 219 (by decide +kernel) (by decide +kernel), rfl, rfl, by decide, tyX7_ok, nmX7⟩
theorem fX7_55 : Fld RX7 55 7 5 (0, 0) := ⟨RX7, TX7, 11, tyX7, rfl, uX7, by decide, gt_in 211 (by decide +kernel) (by decide +kernel), rfl, rfl, by decide, tyX7_ok, nmX7⟩
theorem fX7_70 : Fld RX7 70 7 4 (0, 0) := ⟨RX7, TX7, 11, tyX7, rfl, uX7, by decide, gt_in 207 (by decide +kernel) (by decide +kernel), rfl, rfl, by decide, tyX7_ok, nmX7⟩
theorem fX7_15 : Fld RX7 15 7 7 (0, 0) := ⟨RX7, TX7, 11, tyX7, rfl, uX7, by decide, gt_in 215 (by decide +kernel) (by decide +kernel), rfl, rfl, by decide, tyX7_ok, nmX7⟩
theorem pX7_15 : Fpt RX7 15 7 7 .int := ⟨RX7, TX7, 11, rfl, gt_in 215 (by decide +kernel) (by decide +kernel), rfl, by decide +kernel⟩
theorem pX7_34 : Fpt RX7 34 7 1 .int := ⟨RX7, TX7, 11, rfl, gt_in 201 (by decide +kernel) (by decide +kernel), rfl, by decide +kernel⟩
theorem fX7_37 : Fld RX7 37 7 6 (0, 0) := ⟨RX7, TX7, 11, tyX7, rfl, uX7, by decide, gt_in 213 (by decide +kernel) (by decide +kernel), rfl, rfl, by decide, tyX7_ok, nmX7⟩
theorem pX7_37 : Fpt RX7 37 7 6 .int := ⟨RX7, TX7, 11, rfl, gt_in 213 (by decide +kernel) (by decide +kernel), rfl, by decide +kernel⟩
theorem pX7_40 : Fpt RX7 40 7 9 .int := ⟨RX7, TX7, 11, rfl, gt_in 218 (by decide +kernel) (by decide +kernel), rfl, by decide +kernel⟩
theorem pX7_43 : Fpt RX7 43 7 2 .int := ⟨RX7, TX7, 11, rfl, gt_in 204 (by decide +kernel) (by decide +kernel), rfl, by decide +kernel⟩
theorem pX7_49 : Fpt RX7 49 7 3 .int := ⟨RX7, TX7, 11, rfl, gt_in 206 (by decide +kernel) (by decide +kernel), rfl, by decide +kernel⟩
theorem pX7_52 : Fpt RX7 52 7 10 .int := ⟨RX7, TX7, 11, rfl, gt_in 219 (by decide +kernel) (by decide +kernel), rfl, by decide +kernel⟩
theorem pX7_55 : Fpt RX7 55 7 5 .int := ⟨RX7, TX7, 11, rfl, gt_in 211 (by decide +kernel) (by decide +kernel), rfl, by decide +kernel⟩
theorem pX7_70 : Fpt RX7 70 7 4 .int := ⟨RX7, TX7, 11, rfl, gt_in 207 (by decide +kernel) (by decide +kernel), rfl, by decide +kernel⟩
theorem fX8_9 : Fld RX8 9 8 1 (4, 1) := ⟨RX8, TX8, 14, tyX8, rfl, uX8, by decide, gt_in 345 (by decide +kernel) (by decide +kernel), rfl, rfl, by decide, tyX8_ok, nmX8⟩
theorem fX8_15 : Fld RX8 15 8 3 (4, 2) := ⟨RX8, TX8, 14, tyX8, rfl, uX8, by decide, gt_in 350 (by decide +kernel) (by decide +kernel), rfl, rfl, by decide, tyX8_ok, nmX8⟩
theorem fX8_18 : Fld RX8 18 8 4 (4, 3) := ⟨RX8, TX8, 14, tyX8, rfl, uX8, by decide, gt_in 351 (by decide +kernel) (by decide +kernel), rfl, rfl, by decide, tyX8_ok, nmX8⟩
theorem fX8_21 : Fld RX8 21 8 6 (4, 4) := ⟨RX8, TX8, 14, tyX8, rfl, uX8, by decide, gt_in 357 (by decide +kernel) (by decide +kernel), rfl, rfl, by decide, tyX8_ok, nmX8⟩
theorem fX8_24 : Fld RX8 24 8 7 (4, 5) := ⟨RX8, TX8, 14, tyX8, rfl, uX8, by decide, gt_in 359 (by decide +kernel) (by decide +kernel), rfl, rfl, by decide, tyX8_ok, nmX8⟩
theorem fX8_27 : Fld RX8 27 8 8 (4, 6) := ⟨RX8, TX8, 14, tyX8, rfl, uX8, by decide, gt_in 361 (by decide +kernel) (by decide +kernel), rfl, rfl, by decide, tyX8_ok, nmX8⟩
theorem fX8_33 : Fld RX8 33 8 10 (4, 7) := ⟨RX8, TX8, 14, tyX8, rfl, uX8, by decide, gt_in 367 (by decide +kernel) (by decide +kernel), rfl, rfl, by decide, tyX8_ok, nmX8⟩
theorem fX8_40 : Fld RX8 40 8 12 (4, 11) := ⟨RX8, TX8, 14, tyX8, rfl, uX8, by decide, gt_in 373 (by decide +kernel) (by decide +kernel), rfl, rfl, by decide, tyX8_ok, nmX8⟩
theorem fX8_44 : Fld RX8 44 8 13 (4, 14) := ⟨RX8, TX8, 14, tyX8, rfl, uX8, by decide, gt_in 376 (by decide +kernel) (by decide +kernel), rfl, rfl, by decide, tyX8_ok, nmX8⟩
theorem fX8_47 : Fld RX8 47 8 0 (0, 0) := ⟨RX8, TX8, 14, tyX8, rfl, uX8, by decide, gt_in 339 (by decide +kernel) (by decide +kernel), rfl, rfl, by decide, tyX8_ok, nmX8⟩
theorem fX8_51 : Fld RX8 51 8 2 (0, 0) := ⟨RX8, TX8, 14, tyX8, rfl, uX8, by decide, gt_in 347 (by decide +kernel) (by decide +kernel), rfl, rfl, by decide, tyX8_ok, nmX8⟩
theorem fX8_54 : Fld RX8 54 8 5 (0, 0) := ⟨RX8, TX8, 14, tyX8, rfl, uX8, by decide, gt_in 352 (by decide +kernel) (by decide +kernel), rfl, rfl, by decide, tyX8_ok, nmX8⟩
theorem pX8_47 : Fpt RX8 47 8 0 .int := ⟨RX8, TX8, 14, rfl, gt_in 339 (by decide +kernel) (by decide +kernel), rfl, by decide +kernel⟩
theorem pX8_51 : Fpt RX8 51 8 2 .int := ⟨RX8, TX8, 14, rfl, gt_in 347 (by decide +kernel) (by decide +kernel), rfl, by decide +kernel⟩
theorem pX8_54 : Fpt RX8 54 8 5 .int := ⟨RX8, TX8, 14, rfl, gt_in 352 (by decide +kernel) (by decide +kernel), rfl, by decide +kernel⟩
theorem fX8_57 : Fld RX8 57 8 9 (0, 0) := ⟨RX8, TX8, 14, tyX8, rfl, uX8, by decide, gt_in 364 (by decide +kernel) (by decide +kernel), rfl, rfl, by decide, tyX8_ok, nmX8⟩
theorem pX8_57 : Fpt RX8 57 8 9 .int := ⟨RX8, TX8, 14, rfl, gt_in 364 (by decide +kernel) (by decide +kernel), rfl, by decide +kernel⟩
theorem fX8_60 : Fld RX8 60 5 0 (0, 0) := ⟨RX5, TX5, 4, tyX5, rfl, uX5, by decide, gt_in 293 (by decide +kernel) (by decide +kernel), rfl, rfl, by decide, tyX5_ok, nmX5⟩
theorem pX8_60 : Fpt RX8 60 5 0 .int := ⟨RX5, TX5, 4, rfl, gt_in 293 (by decide +kernel) (by decide +kernel), rfl, by decide +kernel⟩
theorem fX8_63 : Fld RX8 63 8 11 (0, 0) := ⟨RX8, TX8, 14, tyX8, rfl, uX8, by decide, gt_in 370 (by decide +kernel) (by decide +kernel), rfl, rfl, by decide, tyX8_ok, nmX8⟩
theorem pX8_63 : Fpt RX8 63 8 11 .int := ⟨RX8, TX8, 14, rfl, gt_in 370 (by decide +kernel) (by decide +kernel), rfl, by decide +kernel⟩
theorem fX8_66 : Fld RX8 66 1 2 (0, 0) := ⟨RX1, TX1, 3, tyX1, rfl, uX1, by decide, gt_in 330 (by decide +kernel) (by decide +kernel), rfl, rfl, by decide, tyX1_ok, nmX1⟩
theorem pX8_66 : Fpt RX8 66 1 2 .int := ⟨RX1, TX1, 3, rfl, gt_in 330 (by decide +kernel) (by decide +kernel), rfl, by decide +kernel⟩
theorem fX9_9 : Fld RX9 9 9 0 (4, -3) := ⟨RX9, TX9, 4, tyX9, rfl, uX9, by decide, gt_in 267 (by decide +kernel) (by decide +kernel), rfl, rfl, by decide, tyX9_ok, nmX9⟩
theorem fX9_20 : Fld RX9 20 9 1 (4, 1) := ⟨RX9, TX9, 4, tyX9, rfl, uX9, by decide, gt_in 268 (by decide +kernel) (by decide +kernel), rfl, rfl, by decide, tyX9_ok, nmX9⟩
theorem fX9_24 : Fld RX9 24 9 2 (3, 0) := ⟨RX9, TX9, 4, tyX9, rfl, uX9, by decide, gt_in 269 (by decide +kernel) (by decide +kernel), rfl, rfl, by decide, tyX9_ok, nmX9⟩
theorem fX9_38 : Fld RX9 38 7 2 (0, 0) := ⟨RX7, TX7, 11, tyX7, rfl, uX7, by decide, gt_in 203 (by decide +kernel) (by decide +kernel), rfl, rfl, by decide, tyX7_ok, nmX7⟩
theorem fX9_60 : Fld RX9 60 7 5 (0, 0) := ⟨RX7, TX7, 11, tyX7, rfl, uX7, by decide, gt_in 210 (by decide +kernel) (by decide +kernel), rfl, rfl, by decide, tyX7_ok, nmX7⟩
theorem fX9_78 : Fld RX9 78 8 12 (4, 11) := ⟨RX8, TX8, 14, tyX8, rfl, uX8, by decide, gt_in 374 (by decide +kernel) (by decide +kernel), rfl, rfl, by decide, tyX8_ok, nmX8⟩
theorem fX9_86 : Fld RX9 86 1 2 (0, 0) := ⟨RX1, TX1, 3, tyX1, rfl, uX1, by decide, gt_in 331 (by decide +kernel) (by decide +kernel), rfl, rfl, by decide, tyX1_ok, nmX1⟩
theorem fX9_98 : Fld RX9 98 8 13 (4, 14) := ⟨RX8, TX8, 14, tyX8, rfl, uX8, by decide, gt_in 377 (by decide +kernel) (by decide +kernel), rfl, rfl, by decide, tyX8_ok, nmX8⟩
theorem fX9_107 : Fld RX9 107 8 0 (0, 0) := ⟨RX8, TX8, 14, tyX8, rfl, uX8, by decide, gt_in 341 (by decide +kernel) (by decide +kernel), rfl, rfl, by decide, tyX8_ok, nmX8⟩
theorem fX9_113 : Fld RX9 113 9 3 (0, 0) := ⟨RX9, TX9, 4, tyX9, rfl, uX9, by decide, gt_in 270 (by decide +kernel) (by decide +kernel), rfl, rfl, by decide, tyX9_ok, nmX9⟩
theorem fX9_120 : Fld RX9 120 8 2 (0, 0) := ⟨RX8, TX8, 14, tyX8, rfl, uX8, by decide, gt_in 348 (by decide +kernel) (by decide +kernel), rfl, rfl, by decide, tyX8_ok, nmX8⟩
theorem fX9_139 : Fld RX9 139 8 5 (0, 0) := ⟨RX8, TX8, 14, tyX8, rfl, uX8, by decide, gt_in 355 (by decide +kernel) (by decide +kernel), rfl, rfl, by decide, tyX8_ok, nmX8⟩
theorem fX9_152 : Fld RX9 152 7 4 (0, 0) := ⟨RX7, TX7, 11, tyX7, rfl, uX7, by decide, gt_in 208 (by decide +kernel) (by decide +kernel), rfl, rfl, by decide, tyX7_ok, nmX7⟩
theorem fX9_159 : Fld RX9 159 8 9 (0, 0) := ⟨RX8, TX8, 14, tyX8, rfl, uX8, by decide, gt_in 366 (by decide +kernel) (by decide +kernel), rfl, rfl, by decide, tyX8_ok, nmX8⟩
theorem fX9_162 : Fld RX9 162 8 10 (4, 7) := ⟨RX8, TX8, 14, tyX8, rfl, uX8, by decide, gt_in 369 (by decide +kernel) (by decide +kernel), rfl, rfl, by decide, tyX8_ok, nmX8⟩
theorem fX9_166 : Fld RX9 166 5 0 (0, 0) := ⟨RX5, TX5, 4, tyX5, rfl, uX5, by decide, gt_in 299 (by decide +kernel) (by decide +kernel), rfl, rfl, by decide, tyX5_ok, nmX5⟩
theorem pX9_24 : Fpt RX9 24 9 2 (.object "SilentReel$Town") := ⟨RX9, TX9, 4, rfl, gt_in 269 (by decide +kernel) (by decide +kernel), rfl, by decide +kernel⟩
theorem pX9_113 : Fpt RX9 113 9 3 .int := ⟨RX9, TX9, 4, rfl, gt_in 270 (by decide +kernel) (by decide +kernel), rfl, by decide +kernel⟩
theorem pX9_159 : Fpt RX9 159 8 9 .int := ⟨RX8, TX8, 14, rfl, gt_in 366 (by decide +kernel) (by decide +kernel), rfl, by decide +kernel⟩
theorem fX9_178 : Fld RX9 178 8 11 (0, 0) := ⟨RX8, TX8, 14, tyX8, rfl, uX8, by decide, gt_in 371 (by decide +kernel) (by decide +kernel), rfl, rfl, by decide, tyX8_ok, nmX8⟩
theorem pX9_178 : Fpt RX9 178 8 11 .int := ⟨RX8, TX8, 14, rfl, gt_in 371 (by decide +kernel) (by decide +kernel), rfl, by decide +kernel⟩
theorem fX10_9 : Fld RX10 9 10 0 (4, 1) := ⟨RX10, TX10, 6, tyX10, rfl, uX10, by decide, gt_in 454 (by decide +kernel) (by decide +kernel), rfl, rfl, by decide, tyX10_ok, nmX10⟩
theorem fX10_15 : Fld RX10 15 10 1 (4, 2) := ⟨RX10, TX10, 6, tyX10, rfl, uX10, by decide, gt_in 455 (by decide +kernel) (by decide +kernel), rfl, rfl, by decide, tyX10_ok, nmX10⟩
theorem fX10_18 : Fld RX10 18 10 2 (4, 3) := ⟨RX10, TX10, 6, tyX10, rfl, uX10, by decide, gt_in 456 (by decide +kernel) (by decide +kernel), rfl, rfl, by decide, tyX10_ok, nmX10⟩
theorem fX10_23 : Fld RX10 23 10 3 (4, 4) := ⟨RX10, TX10, 6, tyX10, rfl, uX10, by decide, gt_in 457 (by decide +kernel) (by decide +kernel), rfl, rfl, by decide, tyX10_ok, nmX10⟩
theorem fX10_30 : Fld RX10 30 8 5 (0, 0) := ⟨RX8, TX8, 14, tyX8, rfl, uX8, by decide, gt_in 353 (by decide +kernel) (by decide +kernel), rfl, rfl, by decide, tyX8_ok, nmX8⟩
theorem fX10_44 : Fld RX10 44 6 3 (4, 2) := ⟨RX6, TX6, 5, tyX6, rfl, uX6, by decide, gt_in 430 (by decide +kernel) (by decide +kernel), rfl, rfl, by decide, tyX6_ok, nmX6⟩
theorem fX10_54 : Fld RX10 54 10 4 (3, 0) := ⟨RX10, TX10, 6, tyX10, rfl, uX10, by decide, gt_in 458 (by decide +kernel) (by decide +kernel), rfl, rfl, by decide, tyX10_ok, nmX10⟩
theorem fX10_58 : Fld RX10 58 10 5 (3, 0) := ⟨RX10, TX10, 6, tyX10, rfl, uX10, by decide, gt_in 459 (by decide +kernel) (by decide +kernel), rfl, rfl, by decide, tyX10_ok, nmX10⟩
theorem fX10_68 : Fld RX10 68 5 0 (0, 0) := ⟨RX5, TX5, 4, tyX5, rfl, uX5, by decide, gt_in 295 (by decide +kernel) (by decide +kernel), rfl, rfl, by decide, tyX5_ok, nmX5⟩
theorem fX10_73 : Fld RX10 73 5 1 (4, 1) := ⟨RX5, TX5, 4, tyX5, rfl, uX5, by decide, gt_in 302 (by decide +kernel) (by decide +kernel), rfl, rfl, by decide, tyX5_ok, nmX5⟩
theorem fX10_76 : Fld RX10 76 5 2 (4, 2) := ⟨RX5, TX5, 4, tyX5, rfl, uX5, by decide, gt_in 306 (by decide +kernel) (by decide +kernel), rfl, rfl, by decide, tyX5_ok, nmX5⟩
theorem fX10_79 : Fld RX10 79 5 3 (4, 3) := ⟨RX5, TX5, 4, tyX5, rfl, uX5, by decide, gt_in 310 (by decide +kernel) (by decide +kernel), rfl, rfl, by decide, tyX5_ok, nmX5⟩
theorem fX10_82 : Fld RX10 82 6 1 (4, 1) := ⟨RX6, TX6, 5, tyX6, rfl, uX6, by decide, gt_in 423 (by decide +kernel) (by decide +kernel), rfl, rfl, by decide, tyX6_ok, nmX6⟩
theorem fX10_86 : Fld RX10 86 8 8 (4, 6) := ⟨RX8, TX8, 14, tyX8, rfl, uX8, by decide, gt_in 362 (by decide +kernel) (by decide +kernel), rfl, rfl, by decide, tyX8_ok, nmX8⟩
theorem fX10_93 : Fld RX10 93 6 0 (0, 0) := ⟨RX6, TX6, 5, tyX6, rfl, uX6, by decide, gt_in 419 (by decide +kernel) (by decide +kernel), rfl, rfl, by decide, tyX6_ok, nmX6⟩
theorem fX10_103 : Fld RX10 103 8 12 (4, 11) := ⟨RX8, TX8, 14, tyX8, rfl, uX8, by decide, gt_in 375 (by decide +kernel) (by decide +kernel), rfl, rfl, by decide, tyX8_ok, nmX8⟩
theorem fX10_115 : Fld RX10 115 8 0 (0, 0) := ⟨RX8, TX8, 14, tyX8, rfl, uX8, by decide, gt_in 344 (by decide +kernel) (by decide +kernel), rfl, rfl, by decide, tyX8_ok, nmX8⟩
theorem fX10_125 : Fld RX10 125 8 13 (4, 14) := ⟨RX8, TX8, 14, tyX8, rfl, uX8, by decide, gt_in 378 (by decide +kernel) (by decide +kernel), rfl, rfl, by decide, tyX8_ok, nmX8⟩
theorem pX10_54 : Fpt RX10 54 10 4 (.object "SilentReel$Town") := ⟨RX10, TX10, 6, rfl, gt_in 458 (by decide +kernel) (by decide +kernel), rfl, by decide +kernel⟩
theorem pX10_58 : Fpt RX10 58 10 5 (.object "SilentReel$Scene") := ⟨RX10, TX10, 6, rfl, gt_in 459 (by decide +kernel) (by decide +kernel), rfl, by decide +kernel⟩
theorem fX12_7 : Fld RX12 7 12 0 (4, 1) := ⟨RX12, TX12, 67, tyX12, rfl, uX12, by decide, gt_in 1250 (by decide +kernel) (by decide +kernel), rfl, rfl, by decide, tyX12_ok, nmX12⟩
theorem fX12_13 : Fld RX12 13 12 1 (0, 0) := ⟨RX12, TX12, 67, tyX12, rfl, uX12, by decide, gt_in 1251 (by decide +kernel) (by decide +kernel), rfl, rfl, by decide, tyX12_ok, nmX12⟩
theorem fX12_17 : Fld RX12 17 12 2 (0, 0) := ⟨RX12, TX12, 67, tyX12, rfl, uX12, by decide, gt_in 1252 (by decide +kernel) (by decide +kernel), rfl, rfl, by decide, tyX12_ok, nmX12⟩
theorem fX12_20 : Fld RX12 20 12 3 (0, 0) := ⟨RX12, TX12, 67, tyX12, rfl, uX12, by decide, gt_in 1253 (by decide +kernel) (by decide +kernel), rfl, rfl, by decide, tyX12_ok, nmX12⟩
theorem fX12_23 : Fld RX12 23 12 4 (0, 0) := ⟨RX12, TX12, 67, tyX12, rfl, uX12, by decide, gt_in 1254 (by decide +kernel) (by decide +kernel), rfl, rfl, by decide, tyX12_ok, nmX12⟩
theorem fX12_26 : Fld RX12 26 12 5 (0, 0) := ⟨RX12, TX12, 67, tyX12, rfl, uX12, by decide, gt_in 1255 (by decide +kernel) (by decide +kernel), rfl, rfl, by decide, tyX12_ok, nmX12⟩
theorem fX12_29 : Fld RX12 29 12 6 (0, 0) := ⟨RX12, TX12, 67, tyX12, rfl, uX12, by decide, gt_in 1256 (by decide +kernel) (by decide +kernel), rfl, rfl, by decide, tyX12_ok, nmX12⟩
theorem fX12_32 : Fld RX12 32 12 7 (1, 0) := ⟨RX12, TX12, 67, tyX12, rfl, uX12, by decide, gt_in 1257 (by decide +kernel) (by decide +kernel), rfl, rfl, by decide, tyX12_ok, nmX12⟩
theorem fX12_36 : Fld RX12 36 12 8 (0, 0) := ⟨RX12, TX12, 67, tyX12, rfl, uX12, by decide, gt_in 1258 (by decide +kernel) (by decide +kernel), rfl, rfl, by decide, tyX12_ok, nmX12⟩
theorem fX12_39 : Fld RX12 39 12 9 (0, 0) := ⟨RX12, TX12, 67, tyX12, rfl, uX12, by decide, gt_in 1259 (by decide +kernel) (by decide +kernel), rfl, rfl, by decide, tyX12_ok, nmX12⟩
theorem fX12_42 : Fld RX12 42 12 10 (0, 0) := ⟨RX12, TX12, 67, tyX12, rfl, uX12, by decide, gt_in 1260 (by decide +kernel) (by decide +kernel), rfl, rfl, by decide, tyX12_ok, nmX12⟩
theorem fX12_45 : Fld RX12 45 12 11 (0, 0) := ⟨RX12, TX12, 67, tyX12, rfl, uX12, by decide, gt_in 1261 (by decide +kernel) (by decide +kernel), rfl, rfl, by decide, tyX12_ok, nmX12⟩
theorem fX12_48 : Fld RX12 48 12 12 (0, 0) := ⟨RX12, TX12, 67, tyX12, rfl, uX12, by decide, gt_in 1262 (by decide +kernel) (by decide +kernel), rfl, rfl, by decide, tyX12_ok, nmX12⟩
theorem fX12_51 : Fld RX12 51 12 13 (0, 0) := ⟨RX12, TX12, 67, tyX12, rfl, uX12, by decide, gt_in 1263 (by decide +kernel) (by decide +kernel), rfl, rfl, by decide, tyX12_ok, nmX12⟩
theorem fX12_54 : Fld RX12 54 12 14 (4, 2) := ⟨RX12, TX12, 67, tyX12, rfl, uX12, by decide, gt_in 1264 (by decide +kernel) (by decide +kernel), rfl, rfl, by decide, tyX12_ok, nmX12⟩
theorem fX12_57 : Fld RX12 57 12 15 (4, 3) := ⟨RX12, TX12, 67, tyX12, rfl, uX12, by decide, gt_in 1265 (by decide +kernel) (by decide +kernel), rfl, rfl, by decide, tyX12_ok, nmX12⟩
theorem fX12_60 : Fld RX12 60 12 16 (4, 4) := ⟨RX12, TX12, 67, tyX12, rfl, uX12, by decide, gt_in 1266 (by decide +kernel) (by decide +kernel), rfl, rfl, by decide, tyX12_ok, nmX12⟩
theorem fX12_63 : Fld RX12 63 12 17 (4, 5) := ⟨RX12, TX12, 67, tyX12, rfl, uX12, by decide, gt_in 1267 (by decide +kernel) (by decide +kernel), rfl, rfl, by decide, tyX12_ok, nmX12⟩
theorem fX12_66 : Fld RX12 66 12 18 (4, 6) := ⟨RX12, TX12, 67, tyX12, rfl, uX12, by decide, gt_in 1268 (by decide +kernel) (by decide +kernel), rfl, rfl, by decide, tyX12_ok, nmX12⟩
theorem fX12_69 : Fld RX12 69 12 19 (4, 7) := ⟨RX12, TX12, 67, tyX12, rfl, uX12, by decide, gt_in 1269 (by decide +kernel) (by decide +kernel), rfl, rfl, by decide, tyX12_ok, nmX12⟩
theorem fX12_72 : Fld RX12 72 12 20 (4, 8) := ⟨RX12, TX12, 67, tyX12, rfl, uX12, by decide, gt_in 1270 (by decide +kernel) (by decide +kernel), rfl, rfl, by decide, tyX12_ok, nmX12⟩
theorem fX12_75 : Fld RX12 75 12 21 (4, 9) := ⟨RX12, TX12, 67, tyX12, rfl, uX12, by decide, gt_in 1271 (by decide +kernel) (by decide +kernel), rfl, rfl, by decide, tyX12_ok, nmX12⟩
theorem fX12_78 : Fld RX12 78 12 22 (4, 10) := ⟨RX12, TX12, 67, tyX12, rfl, uX12, by decide, gt_in 1272 (by decide +kernel) (by decide +kernel), rfl, rfl, by decide, tyX12_ok, nmX12⟩
theorem fX12_81 : Fld RX12 81 12 23 (4, 11) := ⟨RX12, TX12, 67, tyX12, rfl, uX12, by decide, gt_in 1273 (by decide +kernel) (by decide +kernel), rfl, rfl, by decide, tyX12_ok, nmX12⟩
theorem fX12_84 : Fld RX12 84 12 24 (4, 12) := ⟨RX12, TX12, 67, tyX12, rfl, uX12, by decide, gt_in 1274 (by decide +kernel) (by decide +kernel), rfl, rfl, by decide, tyX12_ok, nmX12⟩
theorem fX12_87 : Fld RX12 87 12 25 (4, 13) := ⟨RX12, TX12, 67, tyX12, rfl, uX12, by decide, gt_in 1275 (by decide +kernel) (by decide +kernel), rfl, rfl, by decide, tyX12_ok, nmX12⟩
theorem fX12_90 : Fld RX12 90 12 26 (4, 14) := ⟨RX12, TX12, 67, tyX12, rfl, uX12, by decide, gt_in 1276 (by decide +kernel) (by decide +kernel), rfl, rfl, by decide, tyX12_ok, nmX12⟩
theorem fX12_93 : Fld RX12 93 12 27 (4, 15) := ⟨RX12, TX12, 67, tyX12, rfl, uX12, by decide, gt_in 1277 (by decide +kernel) (by decide +kernel), rfl, rfl, by decide, tyX12_ok, nmX12⟩
theorem fX12_96 : Fld RX12 96 12 28 (4, 16) := ⟨RX12, TX12, 67, tyX12, rfl, uX12, by decide, gt_in 1278 (by decide +kernel) (by decide +kernel), rfl, rfl, by decide, tyX12_ok, nmX12⟩
theorem fX12_99 : Fld RX12 99 12 29 (4, 17) := ⟨RX12, TX12, 67, tyX12, rfl, uX12, by decide, gt_in 1279 (by decide +kernel) (by decide +kernel), rfl, rfl, by decide, tyX12_ok, nmX12⟩
theorem fX12_102 : Fld RX12 102 12 30 (4, 18) := ⟨RX12, TX12, 67, tyX12, rfl, uX12, by decide, gt_in 1280 (by decide +kernel) (by decide +kernel), rfl, rfl, by decide, tyX12_ok, nmX12⟩
theorem fX12_105 : Fld RX12 105 12 31 (4, 19) := ⟨RX12, TX12, 67, tyX12, rfl, uX12, by decide, gt_in 1281 (by decide +kernel) (by decide +kernel), rfl, rfl, by decide, tyX12_ok, nmX12⟩
theorem fX12_109 : Fld RX12 109 12 32 (4, 20) := ⟨RX12, TX12, 67, tyX12, rfl, uX12, by decide, gt_in 1282 (by decide +kernel) (by decide +kernel), rfl, rfl, by decide, tyX12_ok, nmX12⟩
theorem fX12_112 : Fld RX12 112 12 33 (0, 0) := ⟨RX12, TX12, 67, tyX12, rfl, uX12, by decide, gt_in 1283 (by decide +kernel) (by decide +kernel), rfl, rfl, by decide, tyX12_ok, nmX12⟩
theorem fX12_115 : Fld RX12 115 12 34 (0, 0) := ⟨RX12, TX12, 67, tyX12, rfl, uX12, by decide, gt_in 1284 (by decide +kernel) (by decide +kernel), rfl, rfl, by decide, tyX12_ok, nmX12⟩
theorem fX12_118 : Fld RX12 118 12 35 (2, 0) := ⟨RX12, TX12, 67, tyX12, rfl, uX12, by decide, gt_in 1285 (by decide +kernel) (by decide +kernel), rfl, rfl, by decide, tyX12_ok, nmX12⟩
theorem fX12_122 : Fld RX12 122 12 36 (4, 21) := ⟨RX12, TX12, 67, tyX12, rfl, uX12, by decide, gt_in 1286 (by decide +kernel) (by decide +kernel), rfl, rfl, by decide, tyX12_ok, nmX12⟩
theorem fX12_125 : Fld RX12 125 12 37 (4, 22) := ⟨RX12, TX12, 67, tyX12, rfl, uX12, by decide, gt_in 1287 (by decide +kernel) (by decide +kernel), rfl, rfl, by decide, tyX12_ok, nmX12⟩
theorem fX12_128 : Fld RX12 128 12 38 (4, 23) := ⟨RX12, TX12, 67, tyX12, rfl, uX12, by decide, gt_in 1288 (by decide +kernel) (by decide +kernel), rfl, rfl, by decide, tyX12_ok, nmX12⟩
theorem fX12_132 : Fld RX12 132 12 39 (4, 24) := ⟨RX12, TX12, 67, tyX12, rfl, uX12, by decide, gt_in 1289 (by decide +kernel) (by decide +kernel), rfl, rfl, by decide, tyX12_ok, nmX12⟩
theorem fX12_135 : Fld RX12 135 12 40 (4, 25) := ⟨RX12, TX12, 67, tyX12, rfl, uX12, by decide, gt_in 1290 (by decide +kernel) (by decide +kernel), rfl, rfl, by decide, tyX12_ok, nmX12⟩
theorem fX12_138 : Fld RX12 138 12 41 (0, 0) := ⟨RX12, TX12, 67, tyX12, rfl, uX12, by decide, gt_in 1291 (by decide +kernel) (by decide +kernel), rfl, rfl, by decide, tyX12_ok, nmX12⟩
theorem fX12_141 : Fld RX12 141 12 42 (0, 0) := ⟨RX12, TX12, 67, tyX12, rfl, uX12, by decide, gt_in 1292 (by decide +kernel) (by decide +kernel), rfl, rfl, by decide, tyX12_ok, nmX12⟩
theorem fX12_144 : Fld RX12 144 12 43 (4, 26) := ⟨RX12, TX12, 67, tyX12, rfl, uX12, by decide, gt_in 1293 (by decide +kernel) (by decide +kernel), rfl, rfl, by decide, tyX12_ok, nmX12⟩
theorem fX12_147 : Fld RX12 147 12 44 (0, 0) := ⟨RX12, TX12, 67, tyX12, rfl, uX12, by decide, gt_in 1294 (by decide +kernel) (by decide +kernel), rfl, rfl, by decide, tyX12_ok, nmX12⟩
theorem fX12_150 : Fld RX12 150 12 45 (2, 0) := ⟨RX12, TX12, 67, tyX12, rfl, uX12, by decide, gt_in 1295 (by decide +kernel) (by decide +kernel), rfl, rfl, by decide, tyX12_ok, nmX12⟩
theorem fX12_153 : Fld RX12 153 12 46 (4, 27) := ⟨RX12, TX12, 67, tyX12, rfl, uX12, by decide, gt_in 1296 (by decide +kernel) (by decide +kernel), rfl, rfl, by decide, tyX12_ok, nmX12⟩
theorem fX12_156 : Fld RX12 156 12 47 (4, 28) := ⟨RX12, TX12, 67, tyX12, rfl, uX12, by decide, gt_in 1297 (by decide +kernel) (by decide +kernel), rfl, rfl, by decide, tyX12_ok, nmX12⟩
theorem fX12_159 : Fld RX12 159 12 48 (4, 29) := ⟨RX12, TX12, 67, tyX12, rfl, uX12, by decide, gt_in 1298 (by decide +kernel) (by decide +kernel), rfl, rfl, by decide, tyX12_ok, nmX12⟩
theorem fX12_162 : Fld RX12 162 12 49 (4, 30) := ⟨RX12, TX12, 67, tyX12, rfl, uX12, by decide, gt_in 1299 (by decide +kernel) (by decide +kernel), rfl, rfl, by decide, tyX12_ok, nmX12⟩
theorem fX12_165 : Fld RX12 165 12 50 (4, 31) := ⟨RX12, TX12, 67, tyX12, rfl, uX12, by decide, gt_in 1300 (by decide +kernel) (by decide +kernel), rfl, rfl, by decide, tyX12_ok, nmX12⟩
theorem fX12_168 : Fld RX12 168 12 51 (4, 32) := ⟨RX12, TX12, 67, tyX12, rfl, uX12, by decide, gt_in 1301 (by decide +kernel) (by decide +kernel), rfl, rfl, by decide, tyX12_ok, nmX12⟩
theorem fX12_171 : Fld RX12 171 12 52 (4, 33) := ⟨RX12, TX12, 67, tyX12, rfl, uX12, by decide, gt_in 1302 (by decide +kernel) (by decide +kernel), rfl, rfl, by decide, tyX12_ok, nmX12⟩
theorem fX12_174 : Fld RX12 174 12 53 (4, 34) := ⟨RX12, TX12, 67, tyX12, rfl, uX12, by decide, gt_in 1303 (by decide +kernel) (by decide +kernel), rfl, rfl, by decide, tyX12_ok, nmX12⟩
theorem fX12_177 : Fld RX12 177 12 54 (0, 0) := ⟨RX12, TX12, 67, tyX12, rfl, uX12, by decide, gt_in 1304 (by decide +kernel) (by decide +kernel), rfl, rfl, by decide, tyX12_ok, nmX12⟩
theorem fX12_180 : Fld RX12 180 12 55 (0, 0) := ⟨RX12, TX12, 67, tyX12, rfl, uX12, by decide, gt_in 1305 (by decide +kernel) (by decide +kernel), rfl, rfl, by decide, tyX12_ok, nmX12⟩
theorem fX12_183 : Fld RX12 183 12 56 (1, 0) := ⟨RX12, TX12, 67, tyX12, rfl, uX12, by decide, gt_in 1306 (by decide +kernel) (by decide +kernel), rfl, rfl, by decide, tyX12_ok, nmX12⟩
theorem fX12_186 : Fld RX12 186 12 57 (4, 35) := ⟨RX12, TX12, 67, tyX12, rfl, uX12, by decide, gt_in 1307 (by decide +kernel) (by decide +kernel), rfl, rfl, by decide, tyX12_ok, nmX12⟩
theorem fX12_189 : Fld RX12 189 12 58 (4, 36) := ⟨RX12, TX12, 67, tyX12, rfl, uX12, by decide, gt_in 1308 (by decide +kernel) (by decide +kernel), rfl, rfl, by decide, tyX12_ok, nmX12⟩
theorem fX12_192 : Fld RX12 192 12 59 (4, 37) := ⟨RX12, TX12, 67, tyX12, rfl, uX12, by decide, gt_in 1309 (by decide +kernel) (by decide +kernel), rfl, rfl, by decide, tyX12_ok, nmX12⟩
theorem fX12_195 : Fld RX12 195 12 60 (0, 0) := ⟨RX12, TX12, 67, tyX12, rfl, uX12, by decide, gt_in 1310 (by decide +kernel) (by decide +kernel), rfl, rfl, by decide, tyX12_ok, nmX12⟩
theorem fX12_198 : Fld RX12 198 12 61 (4, 38) := ⟨RX12, TX12, 67, tyX12, rfl, uX12, by decide, gt_in 1311 (by decide +kernel) (by decide +kernel), rfl, rfl, by decide, tyX12_ok, nmX12⟩
theorem fX12_201 : Fld RX12 201 12 62 (4, 39) := ⟨RX12, TX12, 67, tyX12, rfl, uX12, by decide, gt_in 1312 (by decide +kernel) (by decide +kernel), rfl, rfl, by decide, tyX12_ok, nmX12⟩
theorem fX12_204 : Fld RX12 204 12 63 (4, 40) := ⟨RX12, TX12, 67, tyX12, rfl, uX12, by decide, gt_in 1313 (by decide +kernel) (by decide +kernel), rfl, rfl, by decide, tyX12_ok, nmX12⟩
theorem fX12_207 : Fld RX12 207 12 64 (4, 41) := ⟨RX12, TX12, 67, tyX12, rfl, uX12, by decide, gt_in 1314 (by decide +kernel) (by decide +kernel), rfl, rfl, by decide, tyX12_ok, nmX12⟩
theorem fX12_210 : Fld RX12 210 12 65 (4, 42) := ⟨RX12, TX12, 67, tyX12, rfl, uX12, by decide, gt_in 1315 (by decide +kernel) (by decide +kernel), rfl, rfl, by decide, tyX12_ok, nmX12⟩
theorem fX12_213 : Fld RX12 213 12 66 (0, 0) := ⟨RX12, TX12, 67, tyX12, rfl, uX12, by decide, gt_in 1316 (by decide +kernel) (by decide +kernel), rfl, rfl, by decide, tyX12_ok, nmX12⟩
theorem pX12_13 : Fpt RX12 13 12 1 .int := ⟨RX12, TX12, 67, rfl, gt_in 1251 (by decide +kernel) (by decide +kernel), rfl, by decide +kernel⟩
theorem pX12_17 : Fpt RX12 17 12 2 .int := ⟨RX12, TX12, 67, rfl, gt_in 1252 (by decide +kernel) (by decide +kernel), rfl, by decide +kernel⟩
theorem pX12_20 : Fpt RX12 20 12 3 .int := ⟨RX12, TX12, 67, rfl, gt_in 1253 (by decide +kernel) (by decide +kernel), rfl, by decide +kernel⟩
theorem pX12_23 : Fpt RX12 23 12 4 .int := ⟨RX12, TX12, 67, rfl, gt_in 1254 (by decide +kernel) (by decide +kernel), rfl, by decide +kernel⟩
theorem pX12_26 : Fpt RX12 26 12 5 .int := ⟨RX12, TX12, 67, rfl, gt_in 1255 (by decide +kernel) (by decide +kernel), rfl, by decide +kernel⟩
theorem pX12_29 : Fpt RX12 29 12 6 .int := ⟨RX12, TX12, 67, rfl, gt_in 1256 (by decide +kernel) (by decide +kernel), rfl, by decide +kernel⟩
theorem pX12_32 : Fpt RX12 32 12 7 .long := ⟨RX12, TX12, 67, rfl, gt_in 1257 (by decide +kernel) (by decide +kernel), rfl, by decide +kernel⟩
theorem pX12_36 : Fpt RX12 36 12 8 .int := ⟨RX12, TX12, 67, rfl, gt_in 1258 (by decide +kernel) (by decide +kernel), rfl, by decide +kernel⟩
theorem pX12_39 : Fpt RX12 39 12 9 .int := ⟨RX12, TX12, 67, rfl, gt_in 1259 (by decide +kernel) (by decide +kernel), rfl, by decide +kernel⟩
theorem pX12_42 : Fpt RX12 42 12 10 .int := ⟨RX12, TX12, 67, rfl, gt_in 1260 (by decide +kernel) (by decide +kernel), rfl, by decide +kernel⟩
theorem pX12_45 : Fpt RX12 45 12 11 .int := ⟨RX12, TX12, 67, rfl, gt_in 1261 (by decide +kernel) (by decide +kernel), rfl, by decide +kernel⟩
theorem pX12_48 : Fpt RX12 48 12 12 .int := ⟨RX12, TX12, 67, rfl, gt_in 1262 (by decide +kernel) (by decide +kernel), rfl, by decide +kernel⟩
theorem pX12_51 : Fpt RX12 51 12 13 .int := ⟨RX12, TX12, 67, rfl, gt_in 1263 (by decide +kernel) (by decide +kernel), rfl, by decide +kernel⟩
theorem pX12_112 : Fpt RX12 112 12 33 .int := ⟨RX12, TX12, 67, rfl, gt_in 1283 (by decide +kernel) (by decide +kernel), rfl, by decide +kernel⟩
theorem pX12_115 : Fpt RX12 115 12 34 .int := ⟨RX12, TX12, 67, rfl, gt_in 1284 (by decide +kernel) (by decide +kernel), rfl, by decide +kernel⟩
theorem pX12_118 : Fpt RX12 118 12 35 .boolean := ⟨RX12, TX12, 67, rfl, gt_in 1285 (by decide +kernel) (by decide +kernel), rfl, by decide +kernel⟩
theorem pX12_138 : Fpt RX12 138 12 41 .int := ⟨RX12, TX12, 67, rfl, gt_in 1291 (by decide +kernel) (by decide +kernel), rfl, by decide +kernel⟩
theorem pX12_141 : Fpt RX12 141 12 42 .int := ⟨RX12, TX12, 67, rfl, gt_in 1292 (by decide +kernel) (by decide +kernel), rfl, by decide +kernel⟩
theorem pX12_147 : Fpt RX12 147 12 44 .int := ⟨RX12, TX12, 67, rfl, gt_in 1294 (by decide +kernel) (by decide +kernel), rfl, by decide +kernel⟩
theorem pX12_150 : Fpt RX12 150 12 45 .boolean := ⟨RX12, TX12, 67, rfl, gt_in 1295 (by decide +kernel) (by decide +kernel), rfl, by decide +kernel⟩
theorem pX12_177 : Fpt RX12 177 12 54 .int := ⟨RX12, TX12, 67, rfl, gt_in 1304 (by decide +kernel) (by decide +kernel), rfl, by decide +kernel⟩
theorem pX12_180 : Fpt RX12 180 12 55 .int := ⟨RX12, TX12, 67, rfl, gt_in 1305 (by decide +kernel) (by decide +kernel), rfl, by decide +kernel⟩
theorem pX12_183 : Fpt RX12 183 12 56 .long := ⟨RX12, TX12, 67, rfl, gt_in 1306 (by decide +kernel) (by decide +kernel), rfl, by decide +kernel⟩
theorem pX12_195 : Fpt RX12 195 12 60 .int := ⟨RX12, TX12, 67, rfl, gt_in 1310 (by decide +kernel) (by decide +kernel), rfl, by decide +kernel⟩
theorem pX12_213 : Fpt RX12 213 12 66 .int := ⟨RX12, TX12, 67, rfl, gt_in 1316 (by decide +kernel) (by decide +kernel), rfl, by decide +kernel⟩
theorem clX11_147 : Cl RX11 147 yJ6_bitCount_0f7a4 cJ6_bitCount_0f7a4 1 (some .int) 1 := ⟨gt_in 864 (by decide +kernel) (by decide +kernel), gt_in 137 (by decide +kernel) (by decide +kernel), gt_in 866 (by decide +kernel) (by decide +kernel), by decide, by decide +kernel⟩
theorem clsJ6_bitCount_0f7a4 : Cond.static yJ6_bitCount_0f7a4 ∈ GT := gt_in 865 (by decide +kernel) (by decide +kernel)
theorem clX11_173 : Cl RX11 173 yX7_letterOf cX7_letterOf 2 (some .int) 2 := ⟨gt_in 970 (by decide +kernel) (by decide +kernel), gt_in 118 (by decide +kernel) (by decide +kernel), gt_in 972 (by decide +kernel) (by decide +kernel), by decide, by decide +kernel⟩
theorem clsX7_letterOf : Cond.static yX7_letterOf ∈ GT := gt_in 971 (by decide +kernel) (by decide +kernel)
theorem clX11_221 : Cl RX11 221 yX11_isStep cX11_isStep 1 (some .boolean) 1 := ⟨gt_in 1019 (by decide +kernel) (by decide +kernel), gt_in 117 (by decide +kernel) (by decide +kernel), gt_in 1021 (by decide +kernel) (by decide +kernel), by decide, by decide +kernel⟩
theorem clsX11_isStep : Cond.static yX11_isStep ∈ GT := gt_in 1020 (by decide +kernel) (by decide +kernel)
theorem clX11_319 : Cl RX11 319 yX4_read cX4_read 5 (some .boolean) 3 := ⟨gt_in 1228 (by decide +kernel) (by decide +kernel), gt_in 131 (by decide +kernel) (by decide +kernel), gt_in 1230 (by decide +kernel) (by decide +kernel), by decide, by decide +kernel⟩
theorem clsX4_read : Cond.static yX4_read ∈ GT := gt_in 1229 (by decide +kernel) (by decide +kernel)
theorem clX11_322 : Cl RX11 322 yJ9_min_7cf53 cJ9_min_7cf53 2 (some .int) 2 := ⟨gt_in 959 (by decide +kernel) (by decide +kernel), gt_in 135 (by decide +kernel) (by decide +kernel), gt_in 961 (by decide +kernel) (by decide +kernel), by decide, by decide +kernel⟩
theorem clsJ9_min_7cf53 : Cond.static yJ9_min_7cf53 ∈ GT := gt_in 960 (by decide +kernel) (by decide +kernel)
theorem clX11_87 : Cl RX11 87 yX11_refuse cX11_refuse 2 (some .int) 1 := ⟨gt_in 596 (by decide +kernel) (by decide +kernel), gt_in 117 (by decide +kernel) (by decide +kernel), gt_in 599 (by decide +kernel) (by decide +kernel), by decide, by decide +kernel⟩
theorem clvX11_refuse : Clv 11 yX11_refuse := ⟨gt_in 598 (by decide +kernel) (by decide +kernel), gt_in 0 (by decide +kernel) (by decide +kernel), by decide, _, _, rfl⟩
theorem clX11_91 : Cl RX11 91 yX7_add cX7_add 3 none 1 := ⟨gt_in 600 (by decide +kernel) (by decide +kernel), gt_in 118 (by decide +kernel) (by decide +kernel), gt_in 603 (by decide +kernel) (by decide +kernel), by decide, by decide +kernel⟩
theorem clvX7_add : Clv 7 yX7_add := ⟨gt_in 601 (by decide +kernel) (by decide +kernel), gt_in 602 (by decide +kernel) (by decide +kernel), by decide, _, _, rfl⟩
theorem clX11_95 : Cl RX11 95 yX11_deny cX11_deny 2 (some .boolean) 1 := ⟨gt_in 608 (by decide +kernel) (by decide +kernel), gt_in 117 (by decide +kernel) (by decide +kernel), gt_in 611 (by decide +kernel) (by decide +kernel), by decide, by decide +kernel⟩
theorem clvX11_deny : Clv 11 yX11_deny := ⟨gt_in 610 (by decide +kernel) (by decide +kernel), gt_in 1 (by decide +kernel) (by decide +kernel), by decide, _, _, rfl⟩
theorem clX11_99 : Cl RX11 99 yX9_read cX9_read 3 (some .int) 1 := ⟨gt_in 616 (by decide +kernel) (by decide +kernel), gt_in 123 (by decide +kernel) (by decide +kernel), gt_in 619 (by decide +kernel) (by decide +kernel), by decide, by decide +kernel⟩
theorem clvX9_read : Clv 9 yX9_read := ⟨gt_in 617 (by decide +kernel) (by decide +kernel), gt_in 618 (by decide +kernel) (by decide +kernel), by decide, _, _, rfl⟩
theorem clX11_103 : Cl RX11 103 yX6_beginIn cX6_beginIn 2 none 1 := ⟨gt_in 840 (by decide +kernel) (by decide +kernel), gt_in 128 (by decide +kernel) (by decide +kernel), gt_in 843 (by decide +kernel) (by decide +kernel), by decide, by decide +kernel⟩
theorem clvX6_beginIn : Clv 6 yX6_beginIn := ⟨gt_in 841 (by decide +kernel) (by decide +kernel), gt_in 842 (by decide +kernel) (by decide +kernel), by decide, _, _, rfl⟩
theorem clX11_107 : Cl RX11 107 yX3_forget cX3_forget 1 none 0 := ⟨gt_in 852 (by decide +kernel) (by decide +kernel), gt_in 130 (by decide +kernel) (by decide +kernel), gt_in 855 (by decide +kernel) (by decide +kernel), by decide, by decide +kernel⟩
theorem clvX3_forget : Clv 3 yX3_forget := ⟨gt_in 853 (by decide +kernel) (by decide +kernel), gt_in 854 (by decide +kernel) (by decide +kernel), by decide, _, _, rfl⟩
theorem clX11_152 : Cl RX11 152 yX11_thisDay cX11_thisDay 1 (some (.object "SilentReel$Walk")) 0 := ⟨gt_in 870 (by decide +kernel) (by decide +kernel), gt_in 117 (by decide +kernel) (by decide +kernel), gt_in 873 (by decide +kernel) (by decide +kernel), by decide, by decide +kernel⟩
theorem clvX11_thisDay : Clv 11 yX11_thisDay := ⟨gt_in 872 (by decide +kernel) (by decide +kernel), gt_in 29 (by decide +kernel) (by decide +kernel), by decide, _, _, rfl⟩
theorem clX11_156 : Cl RX11 156 yX10_trueOnes cX10_trueOnes 4 (some .int) 1 := ⟨gt_in 947 (by decide +kernel) (by decide +kernel), gt_in 129 (by decide +kernel) (by decide +kernel), gt_in 950 (by decide +kernel) (by decide +kernel), by decide, by decide +kernel⟩
theorem clvX10_trueOnes : Clv 10 yX10_trueOnes := ⟨gt_in 948 (by decide +kernel) (by decide +kernel), gt_in 949 (by decide +kernel) (by decide +kernel), by decide, _, _, rfl⟩
theorem clX11_160 : Cl RX11 160 yX11_told cX11_told 1 (some .int) 0 := ⟨gt_in 955 (by decide +kernel) (by decide +kernel), gt_in 117 (by decide +kernel) (by decide +kernel), gt_in 958 (by decide +kernel) (by decide +kernel), by decide, by decide +kernel⟩
theorem clvX11_told : Clv 11 yX11_told := ⟨gt_in 957 (by decide +kernel) (by decide +kernel), gt_in 36 (by decide +kernel) (by decide +kernel), by decide, _, _, rfl⟩
theorem clX11_167 : Cl RX11 167 yX11_isPlace cX11_isPlace 2 (some .boolean) 1 := ⟨gt_in 966 (by decide +kernel) (by decide +kernel), gt_in 117 (by decide +kernel) (by decide +kernel), gt_in 969 (by decide +kernel) (by decide +kernel), by decide, by decide +kernel⟩
theorem clvX11_isPlace : Clv 11 yX11_isPlace := ⟨gt_in 968 (by decide +kernel) (by decide +kernel), gt_in 37 (by decide +kernel) (by decide +kernel), by decide, _, _, rfl⟩
theorem clX11_177 : Cl RX11 177 yX11_isPerson cX11_isPerson 2 (some .boolean) 1 := ⟨gt_in 973 (by decide +kernel) (by decide +kernel), gt_in 117 (by decide +kernel) (by decide +kernel), gt_in 976 (by decide +kernel) (by decide +kernel), by decide, by decide +kernel⟩
theorem clvX11_isPerson : Clv 11 yX11_isPerson := ⟨gt_in 975 (by decide +kernel) (by decide +kernel), gt_in 38 (by decide +kernel) (by decide +kernel), by decide, _, _, rfl⟩
theorem clX11_183 : Cl RX11 183 yX8_roadsBetween cX8_roadsBetween 3 (some .int) 2 := ⟨gt_in 981 (by decide +kernel) (by decide +kernel), gt_in 125 (by decide +kernel) (by decide +kernel), gt_in 946 (by decide +kernel) (by decide +kernel), by decide, by decide +kernel⟩
theorem clvX8_roadsBetween : Clv 8 yX8_roadsBetween := ⟨gt_in 944 (by decide +kernel) (by decide +kernel), gt_in 945 (by decide +kernel) (by decide +kernel), by decide, _, _, rfl⟩
theorem clX11_192 : Cl RX11 192 yX6_watches cX6_watches 2 (some .boolean) 1 := ⟨gt_in 986 (by decide +kernel) (by decide +kernel), gt_in 128 (by decide +kernel) (by decide +kernel), gt_in 915 (by decide +kernel) (by decide +kernel), by decide, by decide +kernel⟩
theorem clvX6_watches : Clv 6 yX6_watches := ⟨gt_in 913 (by decide +kernel) (by decide +kernel), gt_in 914 (by decide +kernel) (by decide +kernel), by decide, _, _, rfl⟩
theorem clX11_195 : Cl RX11 195 yX11_isFrame cX11_isFrame 2 (some .boolean) 1 := ⟨gt_in 991 (by decide +kernel) (by decide +kernel), gt_in 117 (by decide +kernel) (by decide +kernel), gt_in 994 (by decide +kernel) (by decide +kernel), by decide, by decide +kernel⟩
theorem clvX11_isFrame : Clv 11 yX11_isFrame := ⟨gt_in 993 (by decide +kernel) (by decide +kernel), gt_in 39 (by decide +kernel) (by decide +kernel), by decide, _, _, rfl⟩
theorem clX11_207 : Cl RX11 207 yX10_isTrue cX10_isTrue 3 (some .boolean) 2 := ⟨gt_in 995 (by decide +kernel) (by decide +kernel), gt_in 129 (by decide +kernel) (by decide +kernel), gt_in 954 (by decide +kernel) (by decide +kernel), by decide, by decide +kernel⟩
theorem clvX10_isTrue : Clv 10 yX10_isTrue := ⟨gt_in 952 (by decide +kernel) (by decide +kernel), gt_in 953 (by decide +kernel) (by decide +kernel), by decide, _, _, rfl⟩
theorem clX11_211 : Cl RX11 211 yX10_peopleIn cX10_peopleIn 3 (some .int) 2 := ⟨gt_in 996 (by decide +kernel) (by decide +kernel), gt_in 129 (by decide +kernel) (by decide +kernel), gt_in 906 (by decide +kernel) (by decide +kernel), by decide, by decide +kernel⟩
theorem clvX10_peopleIn : Clv 10 yX10_peopleIn := ⟨gt_in 904 (by decide +kernel) (by decide +kernel), gt_in 905 (by decide +kernel) (by decide +kernel), by decide, _, _, rfl⟩
theorem clX11_214 : Cl RX11 214 yX10_spotOf cX10_spotOf 3 (some .int) 2 := ⟨gt_in 1001 (by decide +kernel) (by decide +kernel), gt_in 129 (by decide +kernel) (by decide +kernel), gt_in 894 (by decide +kernel) (by decide +kernel), by decide, by decide +kernel⟩
theorem clvX10_spotOf : Clv 10 yX10_spotOf := ⟨gt_in 892 (by decide +kernel) (by decide +kernel), gt_in 893 (by decide +kernel) (by decide +kernel), by decide, _, _, rfl⟩
theorem clX11_217 : Cl RX11 217 yX10_agreesWith cX10_agreesWith 2 (some .boolean) 1 := ⟨gt_in 1010 (by decide +kernel) (by decide +kernel), gt_in 129 (by decide +kernel) (by decide +kernel), gt_in 1013 (by decide +kernel) (by decide +kernel), by decide, by decide +kernel⟩
theorem clvX10_agreesWith : Clv 10 yX10_agreesWith := ⟨gt_in 1011 (by decide +kernel) (by decide +kernel), gt_in 1012 (by decide +kernel) (by decide +kernel), by decide, _, _, rfl⟩
theorem clX11_224 : Cl RX11 224 yX6_copy cX6_copy 2 none 1 := ⟨gt_in 1022 (by decide +kernel) (by decide +kernel), gt_in 128 (by decide +kernel) (by decide +kernel), gt_in 1025 (by decide +kernel) (by decide +kernel), by decide, by decide +kernel⟩
theorem clvX6_copy : Clv 6 yX6_copy := ⟨gt_in 1023 (by decide +kernel) (by decide +kernel), gt_in 1024 (by decide +kernel) (by decide +kernel), by decide, _, _, rfl⟩
theorem clX11_228 : Cl RX11 228 yX5_put cX5_put 5 none 3 := ⟨gt_in 1026 (by decide +kernel) (by decide +kernel), gt_in 126 (by decide +kernel) (by decide +kernel), gt_in 755 (by decide +kernel) (by decide +kernel), by decide, by decide +kernel⟩
theorem clvX5_put : Clv 5 yX5_put := ⟨gt_in 753 (by decide +kernel) (by decide +kernel), gt_in 754 (by decide +kernel) (by decide +kernel), by decide, _, _, rfl⟩
theorem clX11_232 : Cl RX11 232 yX10_goThrough cX10_goThrough 5 none 2 := ⟨gt_in 874 (by decide +kernel) (by decide +kernel), gt_in 129 (by decide +kernel) (by decide +kernel), gt_in 877 (by decide +kernel) (by decide +kernel), by decide, by decide +kernel⟩
theorem clvX10_goThrough : Clv 10 yX10_goThrough := ⟨gt_in 875 (by decide +kernel) (by decide +kernel), gt_in 876 (by decide +kernel) (by decide +kernel), by decide, _, _, rfl⟩
theorem clX11_236 : Cl RX11 236 yX10_countIn cX10_countIn 3 (some .int) 2 := ⟨gt_in 1027 (by decide +kernel) (by decide +kernel), gt_in 129 (by decide +kernel) (by decide +kernel), gt_in 902 (by decide +kernel) (by decide +kernel), by decide, by decide +kernel⟩
theorem clvX10_countIn : Clv 10 yX10_countIn := ⟨gt_in 900 (by decide +kernel) (by decide +kernel), gt_in 901 (by decide +kernel) (by decide +kernel), by decide, _, _, rfl⟩
theorem clX11_239 : Cl RX11 239 yX11_agreesWithout cX11_agreesWithout 3 (some .boolean) 1 := ⟨gt_in 1032 (by decide +kernel) (by decide +kernel), gt_in 117 (by decide +kernel) (by decide +kernel), gt_in 1035 (by decide +kernel) (by decide +kernel), by decide, by decide +kernel⟩
theorem clvX11_agreesWithout : Clv 11 yX11_agreesWithout := ⟨gt_in 1034 (by decide +kernel) (by decide +kernel), gt_in 40 (by decide +kernel) (by decide +kernel), by decide, _, _, rfl⟩
theorem clX11_242 : Cl RX11 242 yX10_agreesIn cX10_agreesIn 5 (some .boolean) 2 := ⟨gt_in 1040 (by decide +kernel) (by decide +kernel), gt_in 129 (by decide +kernel) (by decide +kernel), gt_in 1043 (by decide +kernel) (by decide +kernel), by decide, by decide +kernel⟩
theorem clvX10_agreesIn : Clv 10 yX10_agreesIn := ⟨gt_in 1041 (by decide +kernel) (by decide +kernel), gt_in 1042 (by decide +kernel) (by decide +kernel), by decide, _, _, rfl⟩
theorem clX11_246 : Cl RX11 246 yX10_isNeverEntered cX10_isNeverEntered 4 (some .boolean) 1 := ⟨gt_in 1056 (by decide +kernel) (by decide +kernel), gt_in 129 (by decide +kernel) (by decide +kernel), gt_in 1059 (by decide +kernel) (by decide +kernel), by decide, by decide +kernel⟩
theorem clvX10_isNeverEntered : Clv 10 yX10_isNeverEntered := ⟨gt_in 1057 (by decide +kernel) (by decide +kernel), gt_in 1058 (by decide +kernel) (by decide +kernel), by decide, _, _, rfl⟩
theorem clX11_249 : Cl RX11 249 yX11_daysAhead cX11_daysAhead 1 (some .int) 0 := ⟨gt_in 1064 (by decide +kernel) (by decide +kernel), gt_in 117 (by decide +kernel) (by decide +kernel), gt_in 1067 (by decide +kernel) (by decide +kernel), by decide, by decide +kernel⟩
theorem clvX11_daysAhead : Clv 11 yX11_daysAhead := ⟨gt_in 1066 (by decide +kernel) (by decide +kernel), gt_in 42 (by decide +kernel) (by decide +kernel), by decide, _, _, rfl⟩
theorem clX11_252 : Cl RX11 252 yX6_passInto cX6_passInto 3 none 1 := ⟨gt_in 1068 (by decide +kernel) (by decide +kernel), gt_in 128 (by decide +kernel) (by decide +kernel), gt_in 1071 (by decide +kernel) (by decide +kernel), by decide, by decide +kernel⟩
theorem clvX6_passInto : Clv 6 yX6_passInto := ⟨gt_in 1069 (by decide +kernel) (by decide +kernel), gt_in 1070 (by decide +kernel) (by decide +kernel), by decide, _, _, rfl⟩
theorem clX11_256 : Cl RX11 256 yX10_bringsTogether cX10_bringsTogether 4 (some .boolean) 2 := ⟨gt_in 1077 (by decide +kernel) (by decide +kernel), gt_in 129 (by decide +kernel) (by decide +kernel), gt_in 1080 (by decide +kernel) (by decide +kernel), by decide, by decide +kernel⟩
theorem clvX10_bringsTogether : Clv 10 yX10_bringsTogether := ⟨gt_in 1078 (by decide +kernel) (by decide +kernel), gt_in 1079 (by decide +kernel) (by decide +kernel), by decide, _, _, rfl⟩
theorem clX11_260 : Cl RX11 260 yX6_hasSpotsOf cX6_hasSpotsOf 4 (some .boolean) 2 := ⟨gt_in 1085 (by decide +kernel) (by decide +kernel), gt_in 128 (by decide +kernel) (by decide +kernel), gt_in 1088 (by decide +kernel) (by decide +kernel), by decide, by decide +kernel⟩
theorem clvX6_hasSpotsOf : Clv 6 yX6_hasSpotsOf := ⟨gt_in 1086 (by decide +kernel) (by decide +kernel), gt_in 1087 (by decide +kernel) (by decide +kernel), by decide, _, _, rfl⟩
theorem clX11_264 : Cl RX11 264 yX0_takeRows cX0_takeRows 5 (some .boolean) 2 := ⟨gt_in 1093 (by decide +kernel) (by decide +kernel), gt_in 132 (by decide +kernel) (by decide +kernel), gt_in 1096 (by decide +kernel) (by decide +kernel), by decide, by decide +kernel⟩
theorem clvX0_takeRows : Clv 0 yX0_takeRows := ⟨gt_in 1094 (by decide +kernel) (by decide +kernel), gt_in 1095 (by decide +kernel) (by decide +kernel), by decide, _, _, rfl⟩
theorem clX11_268 : Cl RX11 268 yX11_findBeginnings cX11_findBeginnings 3 none 1 := ⟨gt_in 1103 (by decide +kernel) (by decide +kernel), gt_in 117 (by decide +kernel) (by decide +kernel), gt_in 1106 (by decide +kernel) (by decide +kernel), by decide, by decide +kernel⟩
theorem clvX11_findBeginnings : Clv 11 yX11_findBeginnings := ⟨gt_in 1105 (by decide +kernel) (by decide +kernel), gt_in 43 (by decide +kernel) (by decide +kernel), by decide, _, _, rfl⟩
theorem clX11_283 : Cl RX11 283 yX3_remember cX3_remember 2 none 1 := ⟨gt_in 1134 (by decide +kernel) (by decide +kernel), gt_in 130 (by decide +kernel) (by decide +kernel), gt_in 1137 (by decide +kernel) (by decide +kernel), by decide, by decide +kernel⟩
theorem clvX3_remember : Clv 3 yX3_remember := ⟨gt_in 1135 (by decide +kernel) (by decide +kernel), gt_in 1136 (by decide +kernel) (by decide +kernel), by decide, _, _, rfl⟩
theorem clX11_286 : Cl RX11 286 yX11_pass cX11_pass 2 none 1 := ⟨gt_in 1140 (by decide +kernel) (by decide +kernel), gt_in 117 (by decide +kernel) (by decide +kernel), gt_in 1143 (by decide +kernel) (by decide +kernel), by decide, by decide +kernel⟩
theorem clvX11_pass : Clv 11 yX11_pass := ⟨gt_in 1142 (by decide +kernel) (by decide +kernel), gt_in 46 (by decide +kernel) (by decide +kernel), by decide, _, _, rfl⟩
theorem clX11_289 : Cl RX11 289 yX11_rainCuts cX11_rainCuts 3 (some .boolean) 0 := ⟨gt_in 1152 (by decide +kernel) (by decide +kernel), gt_in 117 (by decide +kernel) (by decide +kernel), gt_in 1155 (by decide +kernel) (by decide +kernel), by decide, by decide +kernel⟩
theorem clvX11_rainCuts : Clv 11 yX11_rainCuts := ⟨gt_in 1154 (by decide +kernel) (by decide +kernel), gt_in 47 (by decide +kernel) (by decide +kernel), by decide, _, _, rfl⟩
theorem clX11_293 : Cl RX11 293 yX5_indexOf cX5_indexOf 4 (some .int) 2 := ⟨gt_in 1167 (by decide +kernel) (by decide +kernel), gt_in 126 (by decide +kernel) (by decide +kernel), gt_in 751 (by decide +kernel) (by decide +kernel), by decide, by decide +kernel⟩
theorem clvX5_indexOf : Clv 5 yX5_indexOf := ⟨gt_in 749 (by decide +kernel) (by decide +kernel), gt_in 750 (by decide +kernel) (by decide +kernel), by decide, _, _, rfl⟩
theorem clX11_296 : Cl RX11 296 yX11_act cX11_act 1 none 0 := ⟨gt_in 1168 (by decide +kernel) (by decide +kernel), gt_in 117 (by decide +kernel) (by decide +kernel), gt_in 1171 (by decide +kernel) (by decide +kernel), by decide, by decide +kernel⟩
theorem clvX11_act : Clv 11 yX11_act := ⟨gt_in 1170 (by decide +kernel) (by decide +kernel), gt_in 49 (by decide +kernel) (by decide +kernel), by decide, _, _, rfl⟩
theorem clX11_299 : Cl RX11 299 yX5_remove cX5_remove 3 none 1 := ⟨gt_in 1036 (by decide +kernel) (by decide +kernel), gt_in 126 (by decide +kernel) (by decide +kernel), gt_in 1039 (by decide +kernel) (by decide +kernel), by decide, by decide +kernel⟩
theorem clvX5_remove : Clv 5 yX5_remove := ⟨gt_in 1037 (by decide +kernel) (by decide +kernel), gt_in 1038 (by decide +kernel) (by decide +kernel), by decide, _, _, rfl⟩
theorem clX11_302 : Cl RX11 302 yX3_bringBack cX3_bringBack 2 (some .boolean) 1 := ⟨gt_in 1188 (by decide +kernel) (by decide +kernel), gt_in 130 (by decide +kernel) (by decide +kernel), gt_in 1191 (by decide +kernel) (by decide +kernel), by decide, by decide +kernel⟩
theorem clvX3_bringBack : Clv 3 yX3_bringBack := ⟨gt_in 1189 (by decide +kernel) (by decide +kernel), gt_in 1190 (by decide +kernel) (by decide +kernel), by decide, _, _, rfl⟩
theorem clX11_309 : Cl RX11 309 yX3_keptOf cX3_keptOf 3 (some .int) 2 := ⟨gt_in 1200 (by decide +kernel) (by decide +kernel), gt_in 130 (by decide +kernel) (by decide +kernel), gt_in 1203 (by decide +kernel) (by decide +kernel), by decide, by decide +kernel⟩
theorem clvX3_keptOf : Clv 3 yX3_keptOf := ⟨gt_in 1201 (by decide +kernel) (by decide +kernel), gt_in 1202 (by decide +kernel) (by decide +kernel), by decide, _, _, rfl⟩
theorem clX11_312 : Cl RX11 312 yX4_write cX4_write 5 none 2 := ⟨gt_in 1208 (by decide +kernel) (by decide +kernel), gt_in 131 (by decide +kernel) (by decide +kernel), gt_in 1211 (by decide +kernel) (by decide +kernel), by decide, by decide +kernel⟩
theorem clvX4_write : Clv 4 yX4_write := ⟨gt_in 1209 (by decide +kernel) (by decide +kernel), gt_in 1210 (by decide +kernel) (by decide +kernel), by decide, _, _, rfl⟩
theorem clX11_327 : Cl RX11 327 yX0_clear cX0_clear 1 none 0 := ⟨gt_in 1107 (by decide +kernel) (by decide +kernel), gt_in 132 (by decide +kernel) (by decide +kernel), gt_in 1110 (by decide +kernel) (by decide +kernel), by decide, by decide +kernel⟩
theorem clvX0_clear : Clv 0 yX0_clear := ⟨gt_in 1108 (by decide +kernel) (by decide +kernel), gt_in 1109 (by decide +kernel) (by decide +kernel), by decide, _, _, rfl⟩
theorem clX11_330 : Cl RX11 330 yX0_weigh cX0_weigh 5 none 2 := ⟨gt_in 1111 (by decide +kernel) (by decide +kernel), gt_in 132 (by decide +kernel) (by decide +kernel), gt_in 1114 (by decide +kernel) (by decide +kernel), by decide, by decide +kernel⟩
theorem clvX0_weigh : Clv 0 yX0_weigh := ⟨gt_in 1112 (by decide +kernel) (by decide +kernel), gt_in 1113 (by decide +kernel) (by decide +kernel), by decide, _, _, rfl⟩
theorem clX11_334 : Cl RX11 334 yX0_findTelling cX0_findTelling 5 none 1 := ⟨gt_in 1120 (by decide +kernel) (by decide +kernel), gt_in 132 (by decide +kernel) (by decide +kernel), gt_in 1123 (by decide +kernel) (by decide +kernel), by decide, by decide +kernel⟩
theorem clvX0_findTelling : Clv 0 yX0_findTelling := ⟨gt_in 1121 (by decide +kernel) (by decide +kernel), gt_in 1122 (by decide +kernel) (by decide +kernel), by decide, _, _, rfl⟩
theorem clX11_337 : Cl RX11 337 yX3_keep cX3_keep 4 none 2 := ⟨gt_in 1144 (by decide +kernel) (by decide +kernel), gt_in 130 (by decide +kernel) (by decide +kernel), gt_in 1147 (by decide +kernel) (by decide +kernel), by decide, by decide +kernel⟩
theorem clvX3_keep : Clv 3 yX3_keep := ⟨gt_in 1145 (by decide +kernel) (by decide +kernel), gt_in 1146 (by decide +kernel) (by decide +kernel), by decide, _, _, rfl⟩
theorem clX11_341 : Cl RX11 341 yX11_draw cX11_draw 2 (some .int) 1 := ⟨gt_in 1156 (by decide +kernel) (by decide +kernel), gt_in 117 (by decide +kernel) (by decide +kernel), gt_in 1159 (by decide +kernel) (by decide +kernel), by decide, by decide +kernel⟩
theorem clvX11_draw : Clv 11 yX11_draw := ⟨gt_in 1158 (by decide +kernel) (by decide +kernel), gt_in 48 (by decide +kernel) (by decide +kernel), by decide, _, _, rfl⟩
theorem kX11_347 : Cond.constantLong RX11 347 (1103515245 : Int64) ∈ GT := gt_in 1160 (by decide +kernel) (by decide +kernel)
theorem kX11_349 : Cond.constantLong RX11 349 (12345 : Int64) ∈ GT := gt_in 1161 (by decide +kernel) (by decide +kernel)
theorem kX11_351 : Cond.constantLong RX11 351 (2147483647 : Int64) ∈ GT := gt_in 1162 (by decide +kernel) (by decide +kernel)
theorem clX0_76 : Cl RX0 76 yJ7_fill_53178 cJ7_fill_53178 4 none 2 := ⟨gt_in 1128 (by decide +kernel) (by decide +kernel), gt_in 134 (by decide +kernel) (by decide +kernel), gt_in 654 (by decide +kernel) (by decide +kernel), by decide, by decide +kernel⟩
theorem clsJ7_fill_53178 : Cond.static yJ7_fill_53178 ∈ GT := gt_in 653 (by decide +kernel) (by decide +kernel)
theorem clX0_82 : Cl RX0 82 yJ9_max_7cf53 cJ9_max_7cf53 2 (some .int) 2 := ⟨gt_in 1129 (by decide +kernel) (by decide +kernel), gt_in 135 (by decide +kernel) (by decide +kernel), gt_in 759 (by decide +kernel) (by decide +kernel), by decide, by decide +kernel⟩
theorem clsJ9_max_7cf53 : Cond.static yJ9_max_7cf53 ∈ GT := gt_in 758 (by decide +kernel) (by decide +kernel)
theorem clX0_62 : Cl RX0 62 yX0_isAsSeen cX0_isAsSeen 3 (some .boolean) 1 := ⟨gt_in 1115 (by decide +kernel) (by decide +kernel), gt_in 132 (by decide +kernel) (by decide +kernel), gt_in 1118 (by decide +kernel) (by decide +kernel), by decide, by decide +kernel⟩
theorem clvX0_isAsSeen : Clv 0 yX0_isAsSeen := ⟨gt_in 1117 (by decide +kernel) (by decide +kernel), gt_in 44 (by decide +kernel) (by decide +kernel), by decide, _, _, rfl⟩
theorem clX0_66 : Cl RX0 66 yX10_countIn cX10_countIn 3 (some .int) 2 := ⟨gt_in 1119 (by decide +kernel) (by decide +kernel), gt_in 129 (by decide +kernel) (by decide +kernel), gt_in 902 (by decide +kernel) (by decide +kernel), by decide, by decide +kernel⟩
theorem clX0_72 : Cl RX0 72 yX0_mostAlike cX0_mostAlike 5 (some .int) 1 := ⟨gt_in 1124 (by decide +kernel) (by decide +kernel), gt_in 132 (by decide +kernel) (by decide +kernel), gt_in 1127 (by decide +kernel) (by decide +kernel), by decide, by decide +kernel⟩
theorem clvX0_mostAlike : Clv 0 yX0_mostAlike := ⟨gt_in 1126 (by decide +kernel) (by decide +kernel), gt_in 45 (by decide +kernel) (by decide +kernel), by decide, _, _, rfl⟩
theorem clX1_22 : Cl RX1 22 yX1_joined cX1_joined 5 (some .long) 3 := ⟨gt_in 920 (by decide +kernel) (by decide +kernel), gt_in 127 (by decide +kernel) (by decide +kernel), gt_in 922 (by decide +kernel) (by decide +kernel), by decide, by decide +kernel⟩
theorem clsX1_joined : Cond.static yX1_joined ∈ GT := gt_in 921 (by decide +kernel) (by decide +kernel)
theorem clX1_30 : Cl RX1 30 yJ9_min_f86c9 cJ9_min_f86c9 4 (some .long) 2 := ⟨gt_in 929 (by decide +kernel) (by decide +kernel), gt_in 135 (by decide +kernel) (by decide +kernel), gt_in 931 (by decide +kernel) (by decide +kernel), by decide, by decide +kernel⟩
theorem clsJ9_min_f86c9 : Cond.static yJ9_min_f86c9 ∈ GT := gt_in 930 (by decide +kernel) (by decide +kernel)
theorem clX1_36 : Cl RX1 36 yJ9_max_f86c9 cJ9_max_f86c9 4 (some .long) 2 := ⟨gt_in 932 (by decide +kernel) (by decide +kernel), gt_in 135 (by decide +kernel) (by decide +kernel), gt_in 934 (by decide +kernel) (by decide +kernel), by decide, by decide +kernel⟩
theorem clsJ9_max_f86c9 : Cond.static yJ9_max_f86c9 ∈ GT := gt_in 933 (by decide +kernel) (by decide +kernel)
theorem clX1_39 : Cl RX1 39 yJ9_floorDiv_f86c9 cJ9_floorDiv_f86c9 6 (some .long) 2 := ⟨gt_in 923 (by decide +kernel) (by decide +kernel), gt_in 135 (by decide +kernel) (by decide +kernel), gt_in 925 (by decide +kernel) (by decide +kernel), by decide, by decide +kernel⟩
theorem clsJ9_floorDiv_f86c9 : Cond.static yJ9_floorDiv_f86c9 ∈ GT := gt_in 924 (by decide +kernel) (by decide +kernel)
theorem clX1_42 : Cl RX1 42 yJ9_floorMod_f86c9 cJ9_floorMod_f86c9 6 (some .long) 2 := ⟨gt_in 926 (by decide +kernel) (by decide +kernel), gt_in 135 (by decide +kernel) (by decide +kernel), gt_in 928 (by decide +kernel) (by decide +kernel), by decide, by decide +kernel⟩
theorem clsJ9_floorMod_f86c9 : Cond.static yJ9_floorMod_f86c9 ∈ GT := gt_in 927 (by decide +kernel) (by decide +kernel)
theorem kX1_26 : Cond.constantLong RX1 26 (-1000000 : Int64) ∈ GT := gt_in 935 (by decide +kernel) (by decide +kernel)
theorem kX1_28 : Cond.constantLong RX1 28 (1000000 : Int64) ∈ GT := gt_in 936 (by decide +kernel) (by decide +kernel)
theorem clX2_23 : Cl RX2 23 yX2_both cX2_both 4 (some .boolean) 1 := ⟨gt_in 768 (by decide +kernel) (by decide +kernel), gt_in 124 (by decide +kernel) (by decide +kernel), gt_in 771 (by decide +kernel) (by decide +kernel), by decide, by decide +kernel⟩
theorem clvX2_both : Clv 2 yX2_both := ⟨gt_in 770 (by decide +kernel) (by decide +kernel), gt_in 17 (by decide +kernel) (by decide +kernel), by decide, _, _, rfl⟩
theorem clX2_29 : Cl RX2 29 yX7_isOwn cX7_isOwn 2 (some .boolean) 1 := ⟨gt_in 776 (by decide +kernel) (by decide +kernel), gt_in 118 (by decide +kernel) (by decide +kernel), gt_in 718 (by decide +kernel) (by decide +kernel), by decide, by decide +kernel⟩
theorem clvX7_isOwn : Clv 7 yX7_isOwn := ⟨gt_in 716 (by decide +kernel) (by decide +kernel), gt_in 717 (by decide +kernel) (by decide +kernel), by decide, _, _, rfl⟩
theorem clX2_32 : Cl RX2 32 yX7_advance cX7_advance 3 none 0 := ⟨gt_in 782 (by decide +kernel) (by decide +kernel), gt_in 118 (by decide +kernel) (by decide +kernel), gt_in 631 (by decide +kernel) (by decide +kernel), by decide, by decide +kernel⟩
theorem clvX7_advance : Clv 7 yX7_advance := ⟨gt_in 629 (by decide +kernel) (by decide +kernel), gt_in 630 (by decide +kernel) (by decide +kernel), by decide, _, _, rfl⟩
theorem clX2_37 : Cl RX2 37 yX1_add cX1_add 2 (some .boolean) 1 := ⟨gt_in 783 (by decide +kernel) (by decide +kernel), gt_in 127 (by decide +kernel) (by decide +kernel), gt_in 786 (by decide +kernel) (by decide +kernel), by decide, by decide +kernel⟩
theorem clvX1_add : Clv 1 yX1_add := ⟨gt_in 784 (by decide +kernel) (by decide +kernel), gt_in 785 (by decide +kernel) (by decide +kernel), by decide, _, _, rfl⟩
theorem clX2_40 : Cl RX2 40 yX2_fact cX2_fact 3 (some .boolean) 1 := ⟨gt_in 772 (by decide +kernel) (by decide +kernel), gt_in 124 (by decide +kernel) (by decide +kernel), gt_in 775 (by decide +kernel) (by decide +kernel), by decide, by decide +kernel⟩
theorem clvX2_fact : Clv 2 yX2_fact := ⟨gt_in 774 (by decide +kernel) (by decide +kernel), gt_in 18 (by decide +kernel) (by decide +kernel), by decide, _, _, rfl⟩
theorem clX2_43 : Cl RX2 43 yX2_opens cX2_opens 2 (some .boolean) 1 := ⟨gt_in 777 (by decide +kernel) (by decide +kernel), gt_in 124 (by decide +kernel) (by decide +kernel), gt_in 780 (by decide +kernel) (by decide +kernel), by decide, by decide +kernel⟩
theorem clvX2_opens : Clv 2 yX2_opens := ⟨gt_in 779 (by decide +kernel) (by decide +kernel), gt_in 19 (by decide +kernel) (by decide +kernel), by decide, _, _, rfl⟩
theorem clX2_46 : Cl RX2 46 yX7_isSign cX7_isSign 2 (some .boolean) 1 := ⟨gt_in 787 (by decide +kernel) (by decide +kernel), gt_in 118 (by decide +kernel) (by decide +kernel), gt_in 790 (by decide +kernel) (by decide +kernel), by decide, by decide +kernel⟩
theorem clvX7_isSign : Clv 7 yX7_isSign := ⟨gt_in 788 (by decide +kernel) (by decide +kernel), gt_in 789 (by decide +kernel) (by decide +kernel), by decide, _, _, rfl⟩
theorem clX2_50 : Cl RX2 50 yX2_test cX2_test 4 (some .boolean) 1 := ⟨gt_in 791 (by decide +kernel) (by decide +kernel), gt_in 124 (by decide +kernel) (by decide +kernel), gt_in 767 (by decide +kernel) (by decide +kernel), by decide, by decide +kernel⟩
theorem clvX2_test : Clv 2 yX2_test := ⟨gt_in 765 (by decide +kernel) (by decide +kernel), gt_in 766 (by decide +kernel) (by decide +kernel), by decide, _, _, rfl⟩
theorem clX2_53 : Cl RX2 53 yX7_takeSign cX7_takeSign 2 (some .boolean) 1 := ⟨gt_in 792 (by decide +kernel) (by decide +kernel), gt_in 118 (by decide +kernel) (by decide +kernel), gt_in 795 (by decide +kernel) (by decide +kernel), by decide, by decide +kernel⟩
theorem clvX7_takeSign : Clv 7 yX7_takeSign := ⟨gt_in 793 (by decide +kernel) (by decide +kernel), gt_in 794 (by decide +kernel) (by decide +kernel), by decide, _, _, rfl⟩
theorem clX2_56 : Cl RX2 56 yX2_take cX2_take 2 (some .boolean) 1 := ⟨gt_in 797 (by decide +kernel) (by decide +kernel), gt_in 124 (by decide +kernel) (by decide +kernel), gt_in 800 (by decide +kernel) (by decide +kernel), by decide, by decide +kernel⟩
theorem clvX2_take : Clv 2 yX2_take := ⟨gt_in 799 (by decide +kernel) (by decide +kernel), gt_in 20 (by decide +kernel) (by decide +kernel), by decide, _, _, rfl⟩
theorem clX2_59 : Cl RX2 59 yX2_sum cX2_sum 5 (some .boolean) 1 := ⟨gt_in 801 (by decide +kernel) (by decide +kernel), gt_in 124 (by decide +kernel) (by decide +kernel), gt_in 804 (by decide +kernel) (by decide +kernel), by decide, by decide +kernel⟩
theorem clvX2_sum : Clv 2 yX2_sum := ⟨gt_in 802 (by decide +kernel) (by decide +kernel), gt_in 803 (by decide +kernel) (by decide +kernel), by decide, _, _, rfl⟩
theorem clX2_62 : Cl RX2 62 yX2_comparison cX2_comparison 1 (some .int) 0 := ⟨gt_in 830 (by decide +kernel) (by decide +kernel), gt_in 124 (by decide +kernel) (by decide +kernel), gt_in 833 (by decide +kernel) (by decide +kernel), by decide, by decide +kernel⟩
theorem clvX2_comparison : Clv 2 yX2_comparison := ⟨gt_in 832 (by decide +kernel) (by decide +kernel), gt_in 27 (by decide +kernel) (by decide +kernel), by decide, _, _, rfl⟩
theorem clX2_66 : Cl RX2 66 yX7_misplaced cX7_misplaced 1 (some .boolean) 0 := ⟨gt_in 813 (by decide +kernel) (by decide +kernel), gt_in 118 (by decide +kernel) (by decide +kernel), gt_in 666 (by decide +kernel) (by decide +kernel), by decide, by decide +kernel⟩
theorem clvX7_misplaced : Clv 7 yX7_misplaced := ⟨gt_in 664 (by decide +kernel) (by decide +kernel), gt_in 665 (by decide +kernel) (by decide +kernel), by decide, _, _, rfl⟩
theorem clX2_70 : Cl RX2 70 yX2_product cX2_product 5 (some .boolean) 1 := ⟨gt_in 805 (by decide +kernel) (by decide +kernel), gt_in 124 (by decide +kernel) (by decide +kernel), gt_in 808 (by decide +kernel) (by decide +kernel), by decide, by decide +kernel⟩
theorem clvX2_product : Clv 2 yX2_product := ⟨gt_in 807 (by decide +kernel) (by decide +kernel), gt_in 21 (by decide +kernel) (by decide +kernel), by decide, _, _, rfl⟩
theorem clX2_73 : Cl RX2 73 yX2_part cX2_part 2 (some .boolean) 1 := ⟨gt_in 809 (by decide +kernel) (by decide +kernel), gt_in 124 (by decide +kernel) (by decide +kernel), gt_in 812 (by decide +kernel) (by decide +kernel), by decide, by decide +kernel⟩
theorem clvX2_part : Clv 2 yX2_part := ⟨gt_in 811 (by decide +kernel) (by decide +kernel), gt_in 22 (by decide +kernel) (by decide +kernel), by decide, _, _, rfl⟩
theorem clX2_76 : Cl RX2 76 yX2_productCode cX2_productCode 1 (some .int) 0 := ⟨gt_in 826 (by decide +kernel) (by decide +kernel), gt_in 124 (by decide +kernel) (by decide +kernel), gt_in 829 (by decide +kernel) (by decide +kernel), by decide, by decide +kernel⟩
theorem clvX2_productCode : Clv 2 yX2_productCode := ⟨gt_in 828 (by decide +kernel) (by decide +kernel), gt_in 26 (by decide +kernel) (by decide +kernel), by decide, _, _, rfl⟩
theorem clX2_89 : Cl RX2 89 yX2_pair cX2_pair 3 (some .boolean) 2 := ⟨gt_in 814 (by decide +kernel) (by decide +kernel), gt_in 124 (by decide +kernel) (by decide +kernel), gt_in 817 (by decide +kernel) (by decide +kernel), by decide, by decide +kernel⟩
theorem clvX2_pair : Clv 2 yX2_pair := ⟨gt_in 816 (by decide +kernel) (by decide +kernel), gt_in 23 (by decide +kernel) (by decide +kernel), by decide, _, _, rfl⟩
theorem clX2_93 : Cl RX2 93 yX2_choice cX2_choice 2 (some .boolean) 1 := ⟨gt_in 822 (by decide +kernel) (by decide +kernel), gt_in 124 (by decide +kernel) (by decide +kernel), gt_in 825 (by decide +kernel) (by decide +kernel), by decide, by decide +kernel⟩
theorem clvX2_choice : Clv 2 yX2_choice := ⟨gt_in 824 (by decide +kernel) (by decide +kernel), gt_in 25 (by decide +kernel) (by decide +kernel), by decide, _, _, rfl⟩
theorem clX2_96 : Cl RX2 96 yX2_opensBracket cX2_opensBracket 2 (some .boolean) 1 := ⟨gt_in 818 (by decide +kernel) (by decide +kernel), gt_in 124 (by decide +kernel) (by decide +kernel), gt_in 821 (by decide +kernel) (by decide +kernel), by decide, by decide +kernel⟩
theorem clvX2_opensBracket : Clv 2 yX2_opensBracket := ⟨gt_in 820 (by decide +kernel) (by decide +kernel), gt_in 24 (by decide +kernel) (by decide +kernel), by decide, _, _, rfl⟩
theorem clX2_99 : Cl RX2 99 yX7_fail cX7_fail 2 (some .boolean) 1 := ⟨gt_in 781 (by decide +kernel) (by decide +kernel), gt_in 118 (by decide +kernel) (by decide +kernel), gt_in 678 (by decide +kernel) (by decide +kernel), by decide, by decide +kernel⟩
theorem clvX7_fail : Clv 7 yX7_fail := ⟨gt_in 676 (by decide +kernel) (by decide +kernel), gt_in 677 (by decide +kernel) (by decide +kernel), by decide, _, _, rfl⟩
theorem clX3_33 : Cl RX3 33 yJ9_min_7cf53 cJ9_min_7cf53 2 (some .int) 2 := ⟨gt_in 1139 (by decide +kernel) (by decide +kernel), gt_in 135 (by decide +kernel) (by decide +kernel), gt_in 961 (by decide +kernel) (by decide +kernel), by decide, by decide +kernel⟩
theorem clX3_29 : Cl RX3 29 yX6_copy cX6_copy 2 none 1 := ⟨gt_in 1138 (by decide +kernel) (by decide +kernel), gt_in 128 (by decide +kernel) (by decide +kernel), gt_in 1025 (by decide +kernel) (by decide +kernel), by decide, by decide +kernel⟩
theorem clX4_58 : Cl RX4 58 yX4_proof cX4_proof 4 (some .int) 2 := ⟨gt_in 1217 (by decide +kernel) (by decide +kernel), gt_in 131 (by decide +kernel) (by decide +kernel), gt_in 1219 (by decide +kernel) (by decide +kernel), by decide, by decide +kernel⟩
theorem clsX4_proof : Cond.static yX4_proof ∈ GT := gt_in 1218 (by decide +kernel) (by decide +kernel)
theorem clX4_69 : Cl RX4 69 yX4_readPeople cX4_readPeople 6 (some .boolean) 3 := ⟨gt_in 1231 (by decide +kernel) (by decide +kernel), gt_in 131 (by decide +kernel) (by decide +kernel), gt_in 1233 (by decide +kernel) (by decide +kernel), by decide, by decide +kernel⟩
theorem clsX4_readPeople : Cond.static yX4_readPeople ∈ GT := gt_in 1232 (by decide +kernel) (by decide +kernel)
theorem clX4_73 : Cl RX4 73 yX4_readReel cX4_readReel 8 (some .boolean) 4 := ⟨gt_in 1234 (by decide +kernel) (by decide +kernel), gt_in 131 (by decide +kernel) (by decide +kernel), gt_in 1236 (by decide +kernel) (by decide +kernel), by decide, by decide +kernel⟩
theorem clsX4_readReel : Cond.static yX4_readReel ∈ GT := gt_in 1235 (by decide +kernel) (by decide +kernel)
theorem clX4_24 : Cl RX4 24 yX4_add cX4_add 2 none 1 := ⟨gt_in 1212 (by decide +kernel) (by decide +kernel), gt_in 131 (by decide +kernel) (by decide +kernel), gt_in 1215 (by decide +kernel) (by decide +kernel), by decide, by decide +kernel⟩
theorem clvX4_add : Clv 4 yX4_add := ⟨gt_in 1214 (by decide +kernel) (by decide +kernel), gt_in 50 (by decide +kernel) (by decide +kernel), by decide, _, _, rfl⟩
theorem clX4_36 : Cl RX4 36 yX6_watches cX6_watches 2 (some .boolean) 1 := ⟨gt_in 1216 (by decide +kernel) (by decide +kernel), gt_in 128 (by decide +kernel) (by decide +kernel), gt_in 915 (by decide +kernel) (by decide +kernel), by decide, by decide +kernel⟩
theorem clX4_86 : Cl RX4 86 yX5_indexOf cX5_indexOf 4 (some .int) 2 := ⟨gt_in 1238 (by decide +kernel) (by decide +kernel), gt_in 126 (by decide +kernel) (by decide +kernel), gt_in 751 (by decide +kernel) (by decide +kernel), by decide, by decide +kernel⟩
theorem clX4_90 : Cl RX4 90 yX5_put cX5_put 5 none 3 := ⟨gt_in 1239 (by decide +kernel) (by decide +kernel), gt_in 126 (by decide +kernel) (by decide +kernel), gt_in 755 (by decide +kernel) (by decide +kernel), by decide, by decide +kernel⟩
theorem clX5_29 : Cl RX5 29 yJ9_max_7cf53 cJ9_max_7cf53 2 (some .int) 2 := ⟨gt_in 757 (by decide +kernel) (by decide +kernel), gt_in 135 (by decide +kernel) (by decide +kernel), gt_in 759 (by decide +kernel) (by decide +kernel), by decide, by decide +kernel⟩
theorem clX5_25 : Cl RX5 25 yX5_indexOf cX5_indexOf 4 (some .int) 2 := ⟨gt_in 756 (by decide +kernel) (by decide +kernel), gt_in 126 (by decide +kernel) (by decide +kernel), gt_in 751 (by decide +kernel) (by decide +kernel), by decide, by decide +kernel⟩
theorem clX6_42 : Cl RX6 42 yX5_copy cX5_copy 2 none 1 := ⟨gt_in 847 (by decide +kernel) (by decide +kernel), gt_in 126 (by decide +kernel) (by decide +kernel), gt_in 850 (by decide +kernel) (by decide +kernel), by decide, by decide +kernel⟩
theorem clvX5_copy : Clv 5 yX5_copy := ⟨gt_in 848 (by decide +kernel) (by decide +kernel), gt_in 849 (by decide +kernel) (by decide +kernel), by decide, _, _, rfl⟩
theorem clX6_49 : Cl RX6 49 yX10_spotOf cX10_spotOf 3 (some .int) 2 := ⟨gt_in 1072 (by decide +kernel) (by decide +kernel), gt_in 129 (by decide +kernel) (by decide +kernel), gt_in 894 (by decide +kernel) (by decide +kernel), by decide, by decide +kernel⟩
theorem clX7_22 : Cl RX7 22 yX7_packedOwn cX7_packedOwn 4 (some .int) 1 := ⟨gt_in 152 (by decide +kernel) (by decide +kernel), gt_in 118 (by decide +kernel) (by decide +kernel), gt_in 154 (by decide +kernel) (by decide +kernel), by decide, by decide +kernel⟩
theorem clsX7_packedOwn : Cond.static yX7_packedOwn ∈ GT := gt_in 153 (by decide +kernel) (by decide +kernel)
theorem clX7_28 : Cl RX7 28 yJ0_charAt_5068e cJ0_charAt_5068e 2 (some .char) 1 := ⟨gt_in 156 (by decide +kernel) (by decide +kernel), gt_in 119 (by decide +kernel) (by decide +kernel), gt_in 159 (by decide +kernel) (by decide +kernel), by decide, by decide +kernel⟩
theorem clX7_46 : Cl RX7 46 yX7_advance cX7_advance 3 none 0 := ⟨gt_in 628 (by decide +kernel) (by decide +kernel), gt_in 118 (by decide +kernel) (by decide +kernel), gt_in 631 (by decide +kernel) (by decide +kernel), by decide, by decide +kernel⟩
theorem clX7_58 : Cl RX7 58 yX7_letterAt cX7_letterAt 2 (some .int) 1 := ⟨gt_in 632 (by decide +kernel) (by decide +kernel), gt_in 118 (by decide +kernel) (by decide +kernel), gt_in 635 (by decide +kernel) (by decide +kernel), by decide, by decide +kernel⟩
theorem clvX7_letterAt : Clv 7 yX7_letterAt := ⟨gt_in 634 (by decide +kernel) (by decide +kernel), gt_in 2 (by decide +kernel) (by decide +kernel), by decide, _, _, rfl⟩
theorem clX7_61 : Cl RX7 61 yX7_readWord cX7_readWord 3 none 0 := ⟨gt_in 636 (by decide +kernel) (by decide +kernel), gt_in 118 (by decide +kernel) (by decide +kernel), gt_in 639 (by decide +kernel) (by decide +kernel), by decide, by decide +kernel⟩
theorem clvX7_readWord : Clv 7 yX7_readWord := ⟨gt_in 638 (by decide +kernel) (by decide +kernel), gt_in 3 (by decide +kernel) (by decide +kernel), by decide, _, _, rfl⟩
theorem clX7_64 : Cl RX7 64 yX7_digitAt cX7_digitAt 2 (some .int) 1 := ⟨gt_in 640 (by decide +kernel) (by decide +kernel), gt_in 118 (by decide +kernel) (by decide +kernel), gt_in 643 (by decide +kernel) (by decide +kernel), by decide, by decide +kernel⟩
theorem clvX7_digitAt : Clv 7 yX7_digitAt := ⟨gt_in 642 (by decide +kernel) (by decide +kernel), gt_in 4 (by decide +kernel) (by decide +kernel), by decide, _, _, rfl⟩
theorem clX7_67 : Cl RX7 67 yX7_readNumber cX7_readNumber 2 none 0 := ⟨gt_in 644 (by decide +kernel) (by decide +kernel), gt_in 118 (by decide +kernel) (by decide +kernel), gt_in 647 (by decide +kernel) (by decide +kernel), by decide, by decide +kernel⟩
theorem clvX7_readNumber : Clv 7 yX7_readNumber := ⟨gt_in 646 (by decide +kernel) (by decide +kernel), gt_in 5 (by decide +kernel) (by decide +kernel), by decide, _, _, rfl⟩
theorem clX7_73 : Cl RX7 73 yX7_isSign cX7_isSign 2 (some .boolean) 1 := ⟨gt_in 796 (by decide +kernel) (by decide +kernel), gt_in 118 (by decide +kernel) (by decide +kernel), gt_in 790 (by decide +kernel) (by decide +kernel), by decide, by decide +kernel⟩
theorem clX7_77 : Cl RX7 77 yX7_misplaced cX7_misplaced 1 (some .boolean) 0 := ⟨gt_in 719 (by decide +kernel) (by decide +kernel), gt_in 118 (by decide +kernel) (by decide +kernel), gt_in 666 (by decide +kernel) (by decide +kernel), by decide, by decide +kernel⟩
theorem clX7_81 : Cl RX7 81 yX7_isOwn cX7_isOwn 2 (some .boolean) 1 := ⟨gt_in 715 (by decide +kernel) (by decide +kernel), gt_in 118 (by decide +kernel) (by decide +kernel), gt_in 718 (by decide +kernel) (by decide +kernel), by decide, by decide +kernel⟩
theorem clX8_69 : Cl RX8 69 yX8_indexIn cX8_indexIn 4 (some .int) 3 := ⟨gt_in 692 (by decide +kernel) (by decide +kernel), gt_in 125 (by decide +kernel) (by decide +kernel), gt_in 694 (by decide +kernel) (by decide +kernel), by decide, by decide +kernel⟩
theorem clsX8_indexIn : Cond.static yX8_indexIn ∈ GT := gt_in 693 (by decide +kernel) (by decide +kernel)
theorem clX8_73 : Cl RX8 73 yJ7_fill_53178 cJ7_fill_53178 4 none 2 := ⟨gt_in 652 (by decide +kernel) (by decide +kernel), gt_in 134 (by decide +kernel) (by decide +kernel), gt_in 654 (by decide +kernel) (by decide +kernel), by decide, by decide +kernel⟩
theorem clX8_79 : Cl RX8 79 yX8_measureFrom cX8_measureFrom 7 none 1 := ⟨gt_in 655 (by decide +kernel) (by decide +kernel), gt_in 125 (by decide +kernel) (by decide +kernel), gt_in 658 (by decide +kernel) (by decide +kernel), by decide, by decide +kernel⟩
theorem clvX8_measureFrom : Clv 8 yX8_measureFrom := ⟨gt_in 657 (by decide +kernel) (by decide +kernel), gt_in 6 (by decide +kernel) (by decide +kernel), by decide, _, _, rfl⟩
theorem clX9_28 : Cl RX9 28 yX8_clear cX8_clear 1 none 0 := ⟨gt_in 620 (by decide +kernel) (by decide +kernel), gt_in 125 (by decide +kernel) (by decide +kernel), gt_in 623 (by decide +kernel) (by decide +kernel), by decide, by decide +kernel⟩
theorem clvX8_clear : Clv 8 yX8_clear := ⟨gt_in 621 (by decide +kernel) (by decide +kernel), gt_in 622 (by decide +kernel) (by decide +kernel), by decide, _, _, rfl⟩
theorem clX9_33 : Cl RX9 33 yX7_startReading cX7_startReading 1 none 0 := ⟨gt_in 624 (by decide +kernel) (by decide +kernel), gt_in 118 (by decide +kernel) (by decide +kernel), gt_in 627 (by decide +kernel) (by decide +kernel), by decide, by decide +kernel⟩
theorem clvX7_startReading : Clv 7 yX7_startReading := ⟨gt_in 625 (by decide +kernel) (by decide +kernel), gt_in 626 (by decide +kernel) (by decide +kernel), by decide, _, _, rfl⟩
theorem clX9_42 : Cl RX9 42 yX8_measure cX8_measure 2 none 0 := ⟨gt_in 648 (by decide +kernel) (by decide +kernel), gt_in 125 (by decide +kernel) (by decide +kernel), gt_in 651 (by decide +kernel) (by decide +kernel), by decide, by decide +kernel⟩
theorem clvX8_measure : Clv 8 yX8_measure := ⟨gt_in 649 (by decide +kernel) (by decide +kernel), gt_in 650 (by decide +kernel) (by decide +kernel), by decide, _, _, rfl⟩
theorem clX9_45 : Cl RX9 45 yX9_statement cX9_statement 1 (some .boolean) 0 := ⟨gt_in 659 (by decide +kernel) (by decide +kernel), gt_in 123 (by decide +kernel) (by decide +kernel), gt_in 662 (by decide +kernel) (by decide +kernel), by decide, by decide +kernel⟩
theorem clvX9_statement : Clv 9 yX9_statement := ⟨gt_in 661 (by decide +kernel) (by decide +kernel), gt_in 7 (by decide +kernel) (by decide +kernel), by decide, _, _, rfl⟩
theorem clX9_49 : Cl RX9 49 yX7_takeSign cX7_takeSign 2 (some .boolean) 1 := ⟨gt_in 839 (by decide +kernel) (by decide +kernel), gt_in 118 (by decide +kernel) (by decide +kernel), gt_in 795 (by decide +kernel) (by decide +kernel), by decide, by decide +kernel⟩
theorem clX9_53 : Cl RX9 53 yX7_fail cX7_fail 2 (some .boolean) 1 := ⟨gt_in 675 (by decide +kernel) (by decide +kernel), gt_in 118 (by decide +kernel) (by decide +kernel), gt_in 678 (by decide +kernel) (by decide +kernel), by decide, by decide +kernel⟩
theorem clX9_57 : Cl RX9 57 yX7_misplaced cX7_misplaced 1 (some .boolean) 0 := ⟨gt_in 663 (by decide +kernel) (by decide +kernel), gt_in 118 (by decide +kernel) (by decide +kernel), gt_in 666 (by decide +kernel) (by decide +kernel), by decide, by decide +kernel⟩
theorem clX9_63 : Cl RX9 63 yX9_place cX9_place 1 (some .boolean) 0 := ⟨gt_in 667 (by decide +kernel) (by decide +kernel), gt_in 123 (by decide +kernel) (by decide +kernel), gt_in 670 (by decide +kernel) (by decide +kernel), by decide, by decide +kernel⟩
theorem clvX9_place : Clv 9 yX9_place := ⟨gt_in 669 (by decide +kernel) (by decide +kernel), gt_in 8 (by decide +kernel) (by decide +kernel), by decide, _, _, rfl⟩
theorem clX9_66 : Cl RX9 66 yX9_road cX9_road 2 (some .boolean) 0 := ⟨gt_in 703 (by decide +kernel) (by decide +kernel), gt_in 123 (by decide +kernel) (by decide +kernel), gt_in 706 (by decide +kernel) (by decide +kernel), by decide, by decide +kernel⟩
theorem clvX9_road : Clv 9 yX9_road := ⟨gt_in 705 (by decide +kernel) (by decide +kernel), gt_in 11 (by decide +kernel) (by decide +kernel), by decide, _, _, rfl⟩
theorem clX9_69 : Cl RX9 69 yX9_dweller cX9_dweller 3 (some .boolean) 0 := ⟨gt_in 728 (by decide +kernel) (by decide +kernel), gt_in 123 (by decide +kernel) (by decide +kernel), gt_in 731 (by decide +kernel) (by decide +kernel), by decide, by decide +kernel⟩
theorem clvX9_dweller : Clv 9 yX9_dweller := ⟨gt_in 730 (by decide +kernel) (by decide +kernel), gt_in 13 (by decide +kernel) (by decide +kernel), by decide, _, _, rfl⟩
theorem clX9_72 : Cl RX9 72 yX9_watcher cX9_watcher 2 (some .boolean) 0 := ⟨gt_in 740 (by decide +kernel) (by decide +kernel), gt_in 123 (by decide +kernel) (by decide +kernel), gt_in 743 (by decide +kernel) (by decide +kernel), by decide, by decide +kernel⟩
theorem clvX9_watcher : Clv 9 yX9_watcher := ⟨gt_in 742 (by decide +kernel) (by decide +kernel), gt_in 15 (by decide +kernel) (by decide +kernel), by decide, _, _, rfl⟩
theorem clX9_75 : Cl RX9 75 yX9_shownFrame cX9_shownFrame 3 (some .boolean) 0 := ⟨gt_in 744 (by decide +kernel) (by decide +kernel), gt_in 123 (by decide +kernel) (by decide +kernel), gt_in 747 (by decide +kernel) (by decide +kernel), by decide, by decide +kernel⟩
theorem clvX9_shownFrame : Clv 9 yX9_shownFrame := ⟨gt_in 746 (by decide +kernel) (by decide +kernel), gt_in 16 (by decide +kernel) (by decide +kernel), by decide, _, _, rfl⟩
theorem clX9_82 : Cl RX9 82 yX2_readInto cX2_readInto 3 none 2 := ⟨gt_in 760 (by decide +kernel) (by decide +kernel), gt_in 124 (by decide +kernel) (by decide +kernel), gt_in 763 (by decide +kernel) (by decide +kernel), by decide, by decide +kernel⟩
theorem clvX2_readInto : Clv 2 yX2_readInto := ⟨gt_in 761 (by decide +kernel) (by decide +kernel), gt_in 762 (by decide +kernel) (by decide +kernel), by decide, _, _, rfl⟩
theorem clX9_91 : Cl RX9 91 yX9_begins cX9_begins 3 (some .boolean) 2 := ⟨gt_in 671 (by decide +kernel) (by decide +kernel), gt_in 123 (by decide +kernel) (by decide +kernel), gt_in 674 (by decide +kernel) (by decide +kernel), by decide, by decide +kernel⟩
theorem clvX9_begins : Clv 9 yX9_begins := ⟨gt_in 673 (by decide +kernel) (by decide +kernel), gt_in 9 (by decide +kernel) (by decide +kernel), by decide, _, _, rfl⟩
theorem clX9_95 : Cl RX9 95 yX2_test cX2_test 4 (some .boolean) 1 := ⟨gt_in 764 (by decide +kernel) (by decide +kernel), gt_in 124 (by decide +kernel) (by decide +kernel), gt_in 767 (by decide +kernel) (by decide +kernel), by decide, by decide +kernel⟩
theorem clX9_101 : Cl RX9 101 yX2_sum cX2_sum 5 (some .boolean) 1 := ⟨gt_in 834 (by decide +kernel) (by decide +kernel), gt_in 124 (by decide +kernel) (by decide +kernel), gt_in 804 (by decide +kernel) (by decide +kernel), by decide, by decide +kernel⟩
theorem clX9_104 : Cl RX9 104 yX9_rain cX9_rain 1 (some .boolean) 0 := ⟨gt_in 835 (by decide +kernel) (by decide +kernel), gt_in 123 (by decide +kernel) (by decide +kernel), gt_in 838 (by decide +kernel) (by decide +kernel), by decide, by decide +kernel⟩
theorem clvX9_rain : Clv 9 yX9_rain := ⟨gt_in 837 (by decide +kernel) (by decide +kernel), gt_in 28 (by decide +kernel) (by decide +kernel), by decide, _, _, rfl⟩
theorem clX9_110 : Cl RX9 110 yX9_newName cX9_newName 1 (some .boolean) 0 := ⟨gt_in 680 (by decide +kernel) (by decide +kernel), gt_in 123 (by decide +kernel) (by decide +kernel), gt_in 683 (by decide +kernel) (by decide +kernel), by decide, by decide +kernel⟩
theorem clvX9_newName : Clv 9 yX9_newName := ⟨gt_in 682 (by decide +kernel) (by decide +kernel), gt_in 10 (by decide +kernel) (by decide +kernel), by decide, _, _, rfl⟩
theorem clX9_116 : Cl RX9 116 yX8_addPlace cX8_addPlace 2 none 1 := ⟨gt_in 699 (by decide +kernel) (by decide +kernel), gt_in 125 (by decide +kernel) (by decide +kernel), gt_in 702 (by decide +kernel) (by decide +kernel), by decide, by decide +kernel⟩
theorem clvX8_addPlace : Clv 8 yX8_addPlace := ⟨gt_in 700 (by decide +kernel) (by decide +kernel), gt_in 701 (by decide +kernel) (by decide +kernel), by decide, _, _, rfl⟩
theorem clX9_123 : Cl RX9 123 yX9_placeName cX9_placeName 1 (some .boolean) 0 := ⟨gt_in 707 (by decide +kernel) (by decide +kernel), gt_in 123 (by decide +kernel) (by decide +kernel), gt_in 710 (by decide +kernel) (by decide +kernel), by decide, by decide +kernel⟩
theorem clvX9_placeName : Clv 9 yX9_placeName := ⟨gt_in 709 (by decide +kernel) (by decide +kernel), gt_in 12 (by decide +kernel) (by decide +kernel), by decide, _, _, rfl⟩
theorem clX9_126 : Cl RX9 126 yX7_advance cX7_advance 3 none 0 := ⟨gt_in 679 (by decide +kernel) (by decide +kernel), gt_in 118 (by decide +kernel) (by decide +kernel), gt_in 631 (by decide +kernel) (by decide +kernel), by decide, by decide +kernel⟩
theorem clX9_129 : Cl RX9 129 yX7_takeOwn cX7_takeOwn 2 (some .boolean) 1 := ⟨gt_in 711 (by decide +kernel) (by decide +kernel), gt_in 118 (by decide +kernel) (by decide +kernel), gt_in 714 (by decide +kernel) (by decide +kernel), by decide, by decide +kernel⟩
theorem clvX7_takeOwn : Clv 7 yX7_takeOwn := ⟨gt_in 712 (by decide +kernel) (by decide +kernel), gt_in 713 (by decide +kernel) (by decide +kernel), by decide, _, _, rfl⟩
theorem clX9_132 : Cl RX9 132 yX8_reaches cX8_reaches 3 (some .boolean) 2 := ⟨gt_in 720 (by decide +kernel) (by decide +kernel), gt_in 125 (by decide +kernel) (by decide +kernel), gt_in 723 (by decide +kernel) (by decide +kernel), by decide, by decide +kernel⟩
theorem clvX8_reaches : Clv 8 yX8_reaches := ⟨gt_in 721 (by decide +kernel) (by decide +kernel), gt_in 722 (by decide +kernel) (by decide +kernel), by decide, _, _, rfl⟩
theorem clX9_135 : Cl RX9 135 yX8_addRoad cX8_addRoad 3 none 2 := ⟨gt_in 724 (by decide +kernel) (by decide +kernel), gt_in 125 (by decide +kernel) (by decide +kernel), gt_in 727 (by decide +kernel) (by decide +kernel), by decide, by decide +kernel⟩
theorem clvX8_addRoad : Clv 8 yX8_addRoad := ⟨gt_in 725 (by decide +kernel) (by decide +kernel), gt_in 726 (by decide +kernel) (by decide +kernel), by decide, _, _, rfl⟩
theorem clX9_142 : Cl RX9 142 yX9_number cX9_number 3 (some .boolean) 2 := ⟨gt_in 732 (by decide +kernel) (by decide +kernel), gt_in 123 (by decide +kernel) (by decide +kernel), gt_in 735 (by decide +kernel) (by decide +kernel), by decide, by decide +kernel⟩
theorem clvX9_number : Clv 9 yX9_number := ⟨gt_in 734 (by decide +kernel) (by decide +kernel), gt_in 14 (by decide +kernel) (by decide +kernel), by decide, _, _, rfl⟩
theorem clX9_145 : Cl RX9 145 yX8_addPerson cX8_addPerson 4 none 3 := ⟨gt_in 736 (by decide +kernel) (by decide +kernel), gt_in 125 (by decide +kernel) (by decide +kernel), gt_in 739 (by decide +kernel) (by decide +kernel), by decide, by decide +kernel⟩
theorem clvX8_addPerson : Clv 8 yX8_addPerson := ⟨gt_in 737 (by decide +kernel) (by decide +kernel), gt_in 738 (by decide +kernel) (by decide +kernel), by decide, _, _, rfl⟩
theorem clX9_149 : Cl RX9 149 yX7_isName cX7_isName 1 (some .boolean) 0 := ⟨gt_in 684 (by decide +kernel) (by decide +kernel), gt_in 118 (by decide +kernel) (by decide +kernel), gt_in 687 (by decide +kernel) (by decide +kernel), by decide, by decide +kernel⟩
theorem clvX7_isName : Clv 7 yX7_isName := ⟨gt_in 685 (by decide +kernel) (by decide +kernel), gt_in 686 (by decide +kernel) (by decide +kernel), by decide, _, _, rfl⟩
theorem clX9_155 : Cl RX9 155 yX8_personOf cX8_personOf 2 (some .int) 1 := ⟨gt_in 695 (by decide +kernel) (by decide +kernel), gt_in 125 (by decide +kernel) (by decide +kernel), gt_in 698 (by decide +kernel) (by decide +kernel), by decide, by decide +kernel⟩
theorem clvX8_personOf : Clv 8 yX8_personOf := ⟨gt_in 696 (by decide +kernel) (by decide +kernel), gt_in 697 (by decide +kernel) (by decide +kernel), by decide, _, _, rfl⟩
theorem clX9_171 : Cl RX9 171 yX5_indexOf cX5_indexOf 4 (some .int) 2 := ⟨gt_in 748 (by decide +kernel) (by decide +kernel), gt_in 126 (by decide +kernel) (by decide +kernel), gt_in 751 (by decide +kernel) (by decide +kernel), by decide, by decide +kernel⟩
theorem clX9_175 : Cl RX9 175 yX5_put cX5_put 5 none 3 := ⟨gt_in 752 (by decide +kernel) (by decide +kernel), gt_in 126 (by decide +kernel) (by decide +kernel), gt_in 755 (by decide +kernel) (by decide +kernel), by decide, by decide +kernel⟩
theorem clX9_180 : Cl RX9 180 yX8_placeOf cX8_placeOf 2 (some .int) 1 := ⟨gt_in 688 (by decide +kernel) (by decide +kernel), gt_in 125 (by decide +kernel) (by decide +kernel), gt_in 691 (by decide +kernel) (by decide +kernel), by decide, by decide +kernel⟩
theorem clvX8_placeOf : Clv 8 yX8_placeOf := ⟨gt_in 689 (by decide +kernel) (by decide +kernel), gt_in 690 (by decide +kernel) (by decide +kernel), by decide, _, _, rfl⟩
theorem clX10_62 : Cl RX10 62 yJ7_fill_53178 cJ7_fill_53178 4 none 2 := ⟨gt_in 882 (by decide +kernel) (by decide +kernel), gt_in 134 (by decide +kernel) (by decide +kernel), gt_in 654 (by decide +kernel) (by decide +kernel), by decide, by decide +kernel⟩
theorem clX10_135 : Cl RX10 135 yJ6_bitCount_0f7a4 cJ6_bitCount_0f7a4 1 (some .int) 1 := ⟨gt_in 907 (by decide +kernel) (by decide +kernel), gt_in 137 (by decide +kernel) (by decide +kernel), gt_in 866 (by decide +kernel) (by decide +kernel), by decide, by decide +kernel⟩
theorem clX10_26 : Cl RX10 26 yX10_begin cX10_begin 5 none 2 := ⟨gt_in 878 (by decide +kernel) (by decide +kernel), gt_in 129 (by decide +kernel) (by decide +kernel), gt_in 881 (by decide +kernel) (by decide +kernel), by decide, by decide +kernel⟩
theorem clvX10_begin : Clv 10 yX10_begin := ⟨gt_in 880 (by decide +kernel) (by decide +kernel), gt_in 30 (by decide +kernel) (by decide +kernel), by decide, _, _, rfl⟩
theorem clX10_36 : Cl RX10 36 yX10_goal cX10_goal 4 (some .int) 2 := ⟨gt_in 887 (by decide +kernel) (by decide +kernel), gt_in 129 (by decide +kernel) (by decide +kernel), gt_in 890 (by decide +kernel) (by decide +kernel), by decide, by decide +kernel⟩
theorem clvX10_goal : Clv 10 yX10_goal := ⟨gt_in 889 (by decide +kernel) (by decide +kernel), gt_in 32 (by decide +kernel) (by decide +kernel), by decide, _, _, rfl⟩
theorem clX10_40 : Cl RX10 40 yX10_put cX10_put 4 none 3 := ⟨gt_in 883 (by decide +kernel) (by decide +kernel), gt_in 129 (by decide +kernel) (by decide +kernel), gt_in 886 (by decide +kernel) (by decide +kernel), by decide, by decide +kernel⟩
theorem clvX10_put : Clv 10 yX10_put := ⟨gt_in 885 (by decide +kernel) (by decide +kernel), gt_in 31 (by decide +kernel) (by decide +kernel), by decide, _, _, rfl⟩
theorem clX10_50 : Cl RX10 50 yX10_isTrueAt cX10_isTrueAt 4 (some .boolean) 2 := ⟨gt_in 1044 (by decide +kernel) (by decide +kernel), gt_in 129 (by decide +kernel) (by decide +kernel), gt_in 1047 (by decide +kernel) (by decide +kernel), by decide, by decide +kernel⟩
theorem clvX10_isTrueAt : Clv 10 yX10_isTrueAt := ⟨gt_in 1046 (by decide +kernel) (by decide +kernel), gt_in 41 (by decide +kernel) (by decide +kernel), by decide, _, _, rfl⟩
theorem clX10_83 : Cl RX10 83 yX10_spotOf cX10_spotOf 3 (some .int) 2 := ⟨gt_in 891 (by decide +kernel) (by decide +kernel), gt_in 129 (by decide +kernel) (by decide +kernel), gt_in 894 (by decide +kernel) (by decide +kernel), by decide, by decide +kernel⟩
theorem clX10_89 : Cl RX10 89 yX10_know cX10_know 3 none 2 := ⟨gt_in 895 (by decide +kernel) (by decide +kernel), gt_in 129 (by decide +kernel) (by decide +kernel), gt_in 898 (by decide +kernel) (by decide +kernel), by decide, by decide +kernel⟩
theorem clvX10_know : Clv 10 yX10_know := ⟨gt_in 897 (by decide +kernel) (by decide +kernel), gt_in 33 (by decide +kernel) (by decide +kernel), by decide, _, _, rfl⟩
theorem clX10_96 : Cl RX10 96 yX10_countIn cX10_countIn 3 (some .int) 2 := ⟨gt_in 899 (by decide +kernel) (by decide +kernel), gt_in 129 (by decide +kernel) (by decide +kernel), gt_in 902 (by decide +kernel) (by decide +kernel), by decide, by decide +kernel⟩
theorem clX10_99 : Cl RX10 99 yX10_shownTo cX10_shownTo 4 (some .int) 3 := ⟨gt_in 908 (by decide +kernel) (by decide +kernel), gt_in 129 (by decide +kernel) (by decide +kernel), gt_in 911 (by decide +kernel) (by decide +kernel), by decide, by decide +kernel⟩
theorem clvX10_shownTo : Clv 10 yX10_shownTo := ⟨gt_in 910 (by decide +kernel) (by decide +kernel), gt_in 34 (by decide +kernel) (by decide +kernel), by decide, _, _, rfl⟩
theorem clX10_107 : Cl RX10 107 yX1_value cX1_value 7 (some .int) 1 := ⟨gt_in 916 (by decide +kernel) (by decide +kernel), gt_in 127 (by decide +kernel) (by decide +kernel), gt_in 919 (by decide +kernel) (by decide +kernel), by decide, by decide +kernel⟩
theorem clvX1_value : Clv 1 yX1_value := ⟨gt_in 917 (by decide +kernel) (by decide +kernel), gt_in 918 (by decide +kernel) (by decide +kernel), by decide, _, _, rfl⟩
theorem clX10_111 : Cl RX10 111 yX10_bestPlace cX10_bestPlace 9 (some .int) 3 := ⟨gt_in 937 (by decide +kernel) (by decide +kernel), gt_in 129 (by decide +kernel) (by decide +kernel), gt_in 940 (by decide +kernel) (by decide +kernel), by decide, by decide +kernel⟩
theorem clvX10_bestPlace : Clv 10 yX10_bestPlace := ⟨gt_in 939 (by decide +kernel) (by decide +kernel), gt_in 35 (by decide +kernel) (by decide +kernel), by decide, _, _, rfl⟩
theorem clX10_118 : Cl RX10 118 yX8_reaches cX8_reaches 3 (some .boolean) 2 := ⟨gt_in 942 (by decide +kernel) (by decide +kernel), gt_in 125 (by decide +kernel) (by decide +kernel), gt_in 723 (by decide +kernel) (by decide +kernel), by decide, by decide +kernel⟩
theorem clX10_122 : Cl RX10 122 yX8_roadsBetween cX8_roadsBetween 3 (some .int) 2 := ⟨gt_in 943 (by decide +kernel) (by decide +kernel), gt_in 125 (by decide +kernel) (by decide +kernel), gt_in 946 (by decide +kernel) (by decide +kernel), by decide, by decide +kernel⟩
theorem clX10_128 : Cl RX10 128 yX6_watches cX6_watches 2 (some .boolean) 1 := ⟨gt_in 912 (by decide +kernel) (by decide +kernel), gt_in 128 (by decide +kernel) (by decide +kernel), gt_in 915 (by decide +kernel) (by decide +kernel), by decide, by decide +kernel⟩
theorem clX10_132 : Cl RX10 132 yX10_peopleIn cX10_peopleIn 3 (some .int) 2 := ⟨gt_in 903 (by decide +kernel) (by decide +kernel), gt_in 129 (by decide +kernel) (by decide +kernel), gt_in 906 (by decide +kernel) (by decide +kernel), by decide, by decide +kernel⟩
theorem clX10_141 : Cl RX10 141 yX10_isTrue cX10_isTrue 3 (some .boolean) 2 := ⟨gt_in 951 (by decide +kernel) (by decide +kernel), gt_in 129 (by decide +kernel) (by decide +kernel), gt_in 954 (by decide +kernel) (by decide +kernel), by decide, by decide +kernel⟩
theorem clX10_145 : Cl RX10 145 yX10_trueOnes cX10_trueOnes 4 (some .int) 1 := ⟨gt_in 1014 (by decide +kernel) (by decide +kernel), gt_in 129 (by decide +kernel) (by decide +kernel), gt_in 950 (by decide +kernel) (by decide +kernel), by decide, by decide +kernel⟩
theorem kX10_114 : Cond.constant RX10 114 (-1000001 : Int32) ∈ GT := gt_in 941 (by decide +kernel) (by decide +kernel)
theorem clL_13 : Cl "SilentReelLaw" 13 yX11_feed cX11_feed 6 (some .int) 5 := ⟨gt_in 592 (by decide +kernel) (by decide +kernel), gt_in 117 (by decide +kernel) (by decide +kernel), gt_in 595 (by decide +kernel) (by decide +kernel), by decide, by decide +kernel⟩
theorem clvX11_feed : Clv 11 yX11_feed := ⟨gt_in 593 (by decide +kernel) (by decide +kernel), gt_in 594 (by decide +kernel) (by decide +kernel), by decide, _, _, rfl⟩
theorem clL_17 : Cl "SilentReelLaw" 17 yX12_feed cX12_feed 6 (some .int) 5 := ⟨gt_in 1454 (by decide +kernel) (by decide +kernel), gt_in 133 (by decide +kernel) (by decide +kernel), gt_in 1457 (by decide +kernel) (by decide +kernel), by decide, by decide +kernel⟩
theorem clvX12_feed : Clv 12 yX12_feed := ⟨gt_in 1455 (by decide +kernel) (by decide +kernel), gt_in 1456 (by decide +kernel) (by decide +kernel), by decide, _, _, rfl⟩
theorem clL_18 : Cl "SilentReelLaw" 18 yX11_end cX11_end 2 (some .boolean) 1 := ⟨gt_in 604 (by decide +kernel) (by decide +kernel), gt_in 117 (by decide +kernel) (by decide +kernel), gt_in 607 (by decide +kernel) (by decide +kernel), by decide, by decide +kernel⟩
theorem clvX11_end : Clv 11 yX11_end := ⟨gt_in 605 (by decide +kernel) (by decide +kernel), gt_in 606 (by decide +kernel) (by decide +kernel), by decide, _, _, rfl⟩
theorem clL_22 : Cl "SilentReelLaw" 22 yX12_end cX12_end 2 (some .boolean) 1 := ⟨gt_in 1466 (by decide +kernel) (by decide +kernel), gt_in 133 (by decide +kernel) (by decide +kernel), gt_in 1469 (by decide +kernel) (by decide +kernel), by decide, by decide +kernel⟩
theorem clvX12_end : Clv 12 yX12_end := ⟨gt_in 1467 (by decide +kernel) (by decide +kernel), gt_in 1468 (by decide +kernel) (by decide +kernel), by decide, _, _, rfl⟩
theorem clL_23 : Cl "SilentReelLaw" 23 yX11_town cX11_town 3 (some .int) 0 := ⟨gt_in 612 (by decide +kernel) (by decide +kernel), gt_in 117 (by decide +kernel) (by decide +kernel), gt_in 615 (by decide +kernel) (by decide +kernel), by decide, by decide +kernel⟩
theorem clvX11_town : Clv 11 yX11_town := ⟨gt_in 613 (by decide +kernel) (by decide +kernel), gt_in 614 (by decide +kernel) (by decide +kernel), by decide, _, _, rfl⟩
theorem clL_27 : Cl "SilentReelLaw" 27 yX12_town cX12_town 3 (some .int) 0 := ⟨gt_in 1470 (by decide +kernel) (by decide +kernel), gt_in 133 (by decide +kernel) (by decide +kernel), gt_in 1473 (by decide +kernel) (by decide +kernel), by decide, by decide +kernel⟩
theorem clvX12_town : Clv 12 yX12_town := ⟨gt_in 1471 (by decide +kernel) (by decide +kernel), gt_in 1472 (by decide +kernel) (by decide +kernel), by decide, _, _, rfl⟩
theorem clL_28 : Cl "SilentReelLaw" 28 yX11_fault cX11_fault 2 (some .int) 1 := ⟨gt_in 856 (by decide +kernel) (by decide +kernel), gt_in 117 (by decide +kernel) (by decide +kernel), gt_in 859 (by decide +kernel) (by decide +kernel), by decide, by decide +kernel⟩
theorem clvX11_fault : Clv 11 yX11_fault := ⟨gt_in 857 (by decide +kernel) (by decide +kernel), gt_in 858 (by decide +kernel) (by decide +kernel), by decide, _, _, rfl⟩
theorem clL_32 : Cl "SilentReelLaw" 32 yX12_fault cX12_fault 2 (some .int) 1 := ⟨gt_in 1657 (by decide +kernel) (by decide +kernel), gt_in 133 (by decide +kernel) (by decide +kernel), gt_in 1660 (by decide +kernel) (by decide +kernel), by decide, by decide +kernel⟩
theorem clvX12_fault : Clv 12 yX12_fault := ⟨gt_in 1658 (by decide +kernel) (by decide +kernel), gt_in 1659 (by decide +kernel) (by decide +kernel), by decide, _, _, rfl⟩
theorem clL_33 : Cl "SilentReelLaw" 33 yX11_has cX11_has 2 (some .int) 1 := ⟨gt_in 860 (by decide +kernel) (by decide +kernel), gt_in 117 (by decide +kernel) (by decide +kernel), gt_in 863 (by decide +kernel) (by decide +kernel), by decide, by decide +kernel⟩
theorem clvX11_has : Clv 11 yX11_has := ⟨gt_in 861 (by decide +kernel) (by decide +kernel), gt_in 862 (by decide +kernel) (by decide +kernel), by decide, _, _, rfl⟩
theorem clL_36 : Cl "SilentReelLaw" 36 yX12_has cX12_has 2 (some .int) 1 := ⟨gt_in 1677 (by decide +kernel) (by decide +kernel), gt_in 133 (by decide +kernel) (by decide +kernel), gt_in 1680 (by decide +kernel) (by decide +kernel), by decide, by decide +kernel⟩
theorem clvX12_has : Clv 12 yX12_has := ⟨gt_in 1678 (by decide +kernel) (by decide +kernel), gt_in 1679 (by decide +kernel) (by decide +kernel), by decide, _, _, rfl⟩
theorem clL_37 : Cl "SilentReelLaw" 37 yX11_letter cX11_letter 4 (some .int) 3 := ⟨gt_in 962 (by decide +kernel) (by decide +kernel), gt_in 117 (by decide +kernel) (by decide +kernel), gt_in 965 (by decide +kernel) (by decide +kernel), by decide, by decide +kernel⟩
theorem clvX11_letter : Clv 11 yX11_letter := ⟨gt_in 963 (by decide +kernel) (by decide +kernel), gt_in 964 (by decide +kernel) (by decide +kernel), by decide, _, _, rfl⟩
theorem clL_41 : Cl "SilentReelLaw" 41 yX12_letter cX12_letter 9 (some .int) 3 := ⟨gt_in 1731 (by decide +kernel) (by decide +kernel), gt_in 133 (by decide +kernel) (by decide +kernel), gt_in 1734 (by decide +kernel) (by decide +kernel), by decide, by decide +kernel⟩
theorem clvX12_letter : Clv 12 yX12_letter := ⟨gt_in 1732 (by decide +kernel) (by decide +kernel), gt_in 1733 (by decide +kernel) (by decide +kernel), by decide, _, _, rfl⟩
theorem clL_42 : Cl "SilentReelLaw" 42 yX11_far cX11_far 3 (some .int) 2 := ⟨gt_in 977 (by decide +kernel) (by decide +kernel), gt_in 117 (by decide +kernel) (by decide +kernel), gt_in 980 (by decide +kernel) (by decide +kernel), by decide, by decide +kernel⟩
theorem clvX11_far : Clv 11 yX11_far := ⟨gt_in 978 (by decide +kernel) (by decide +kernel), gt_in 979 (by decide +kernel) (by decide +kernel), by decide, _, _, rfl⟩
theorem clL_46 : Cl "SilentReelLaw" 46 yX12_far cX12_far 3 (some .int) 2 := ⟨gt_in 1736 (by decide +kernel) (by decide +kernel), gt_in 133 (by decide +kernel) (by decide +kernel), gt_in 1739 (by decide +kernel) (by decide +kernel), by decide, by decide +kernel⟩
theorem clvX12_far : Clv 12 yX12_far := ⟨gt_in 1737 (by decide +kernel) (by decide +kernel), gt_in 1738 (by decide +kernel) (by decide +kernel), by decide, _, _, rfl⟩
theorem clL_47 : Cl "SilentReelLaw" 47 yX11_person cX11_person 3 (some .int) 2 := ⟨gt_in 982 (by decide +kernel) (by decide +kernel), gt_in 117 (by decide +kernel) (by decide +kernel), gt_in 985 (by decide +kernel) (by decide +kernel), by decide, by decide +kernel⟩
theorem clvX11_person : Clv 11 yX11_person := ⟨gt_in 983 (by decide +kernel) (by decide +kernel), gt_in 984 (by decide +kernel) (by decide +kernel), by decide, _, _, rfl⟩
theorem clL_50 : Cl "SilentReelLaw" 50 yX12_person cX12_person 3 (some .int) 2 := ⟨gt_in 1744 (by decide +kernel) (by decide +kernel), gt_in 133 (by decide +kernel) (by decide +kernel), gt_in 1747 (by decide +kernel) (by decide +kernel), by decide, by decide +kernel⟩
theorem clvX12_person : Clv 12 yX12_person := ⟨gt_in 1745 (by decide +kernel) (by decide +kernel), gt_in 1746 (by decide +kernel) (by decide +kernel), by decide, _, _, rfl⟩
theorem clL_51 : Cl "SilentReelLaw" 51 yX11_frame cX11_frame 4 (some .int) 2 := ⟨gt_in 987 (by decide +kernel) (by decide +kernel), gt_in 117 (by decide +kernel) (by decide +kernel), gt_in 990 (by decide +kernel) (by decide +kernel), by decide, by decide +kernel⟩
theorem clvX11_frame : Clv 11 yX11_frame := ⟨gt_in 988 (by decide +kernel) (by decide +kernel), gt_in 989 (by decide +kernel) (by decide +kernel), by decide, _, _, rfl⟩
theorem clL_54 : Cl "SilentReelLaw" 54 yX12_frame cX12_frame 3 (some .int) 2 := ⟨gt_in 1752 (by decide +kernel) (by decide +kernel), gt_in 133 (by decide +kernel) (by decide +kernel), gt_in 1755 (by decide +kernel) (by decide +kernel), by decide, by decide +kernel⟩
theorem clvX12_frame : Clv 12 yX12_frame := ⟨gt_in 1753 (by decide +kernel) (by decide +kernel), gt_in 1754 (by decide +kernel) (by decide +kernel), by decide, _, _, rfl⟩
theorem clL_55 : Cl "SilentReelLaw" 55 yX11_where cX11_where 3 (some .int) 2 := ⟨gt_in 997 (by decide +kernel) (by decide +kernel), gt_in 117 (by decide +kernel) (by decide +kernel), gt_in 1000 (by decide +kernel) (by decide +kernel), by decide, by decide +kernel⟩
theorem clvX11_where : Clv 11 yX11_where := ⟨gt_in 998 (by decide +kernel) (by decide +kernel), gt_in 999 (by decide +kernel) (by decide +kernel), by decide, _, _, rfl⟩
theorem clL_58 : Cl "SilentReelLaw" 58 yX12_where cX12_where 3 (some .int) 2 := ⟨gt_in 1760 (by decide +kernel) (by decide +kernel), gt_in 133 (by decide +kernel) (by decide +kernel), gt_in 1763 (by decide +kernel) (by decide +kernel), by decide, by decide +kernel⟩
theorem clvX12_where : Clv 12 yX12_where := ⟨gt_in 1761 (by decide +kernel) (by decide +kernel), gt_in 1762 (by decide +kernel) (by decide +kernel), by decide, _, _, rfl⟩
theorem clL_59 : Cl "SilentReelLaw" 59 yX11_who cX11_who 3 (some .int) 2 := ⟨gt_in 1002 (by decide +kernel) (by decide +kernel), gt_in 117 (by decide +kernel) (by decide +kernel), gt_in 1005 (by decide +kernel) (by decide +kernel), by decide, by decide +kernel⟩
theorem clvX11_who : Clv 11 yX11_who := ⟨gt_in 1003 (by decide +kernel) (by decide +kernel), gt_in 1004 (by decide +kernel) (by decide +kernel), by decide, _, _, rfl⟩
theorem clL_62 : Cl "SilentReelLaw" 62 yX12_who cX12_who 3 (some .int) 2 := ⟨gt_in 1764 (by decide +kernel) (by decide +kernel), gt_in 133 (by decide +kernel) (by decide +kernel), gt_in 1767 (by decide +kernel) (by decide +kernel), by decide, by decide +kernel⟩
theorem clvX12_who : Clv 12 yX12_who := ⟨gt_in 1765 (by decide +kernel) (by decide +kernel), gt_in 1766 (by decide +kernel) (by decide +kernel), by decide, _, _, rfl⟩
theorem clL_63 : Cl "SilentReelLaw" 63 yX11_agrees cX11_agrees 1 (some .int) 0 := ⟨gt_in 1006 (by decide +kernel) (by decide +kernel), gt_in 117 (by decide +kernel) (by decide +kernel), gt_in 1009 (by decide +kernel) (by decide +kernel), by decide, by decide +kernel⟩
theorem clvX11_agrees : Clv 11 yX11_agrees := ⟨gt_in 1007 (by decide +kernel) (by decide +kernel), gt_in 1008 (by decide +kernel) (by decide +kernel), by decide, _, _, rfl⟩
theorem clL_66 : Cl "SilentReelLaw" 66 yX12_agrees cX12_agrees 1 (some .int) 0 := ⟨gt_in 1768 (by decide +kernel) (by decide +kernel), gt_in 133 (by decide +kernel) (by decide +kernel), gt_in 1771 (by decide +kernel) (by decide +kernel), by decide, by decide +kernel⟩
theorem clvX12_agrees : Clv 12 yX12_agrees := ⟨gt_in 1769 (by decide +kernel) (by decide +kernel), gt_in 1770 (by decide +kernel) (by decide +kernel), by decide, _, _, rfl⟩
theorem clL_67 : Cl "SilentReelLaw" 67 yX11_self cX11_self 5 (some .int) 2 := ⟨gt_in 1015 (by decide +kernel) (by decide +kernel), gt_in 117 (by decide +kernel) (by decide +kernel), gt_in 1018 (by decide +kernel) (by decide +kernel), by decide, by decide +kernel⟩
theorem clvX11_self : Clv 11 yX11_self := ⟨gt_in 1016 (by decide +kernel) (by decide +kernel), gt_in 1017 (by decide +kernel) (by decide +kernel), by decide, _, _, rfl⟩
theorem clL_70 : Cl "SilentReelLaw" 70 yX12_self cX12_self 6 (some .int) 2 := ⟨gt_in 1776 (by decide +kernel) (by decide +kernel), gt_in 133 (by decide +kernel) (by decide +kernel), gt_in 1779 (by decide +kernel) (by decide +kernel), by decide, by decide +kernel⟩
theorem clvX12_self : Clv 12 yX12_self := ⟨gt_in 1777 (by decide +kernel) (by decide +kernel), gt_in 1778 (by decide +kernel) (by decide +kernel), by decide, _, _, rfl⟩
theorem clL_71 : Cl "SilentReelLaw" 71 yX11_cuts cX11_cuts 5 (some .int) 0 := ⟨gt_in 1028 (by decide +kernel) (by decide +kernel), gt_in 117 (by decide +kernel) (by decide +kernel), gt_in 1031 (by decide +kernel) (by decide +kernel), by decide, by decide +kernel⟩
theorem clvX11_cuts : Clv 11 yX11_cuts := ⟨gt_in 1029 (by decide +kernel) (by decide +kernel), gt_in 1030 (by decide +kernel) (by decide +kernel), by decide, _, _, rfl⟩
theorem clL_74 : Cl "SilentReelLaw" 74 yX12_cuts cX12_cuts 4 (some .int) 0 := ⟨gt_in 1788 (by decide +kernel) (by decide +kernel), gt_in 133 (by decide +kernel) (by decide +kernel), gt_in 1791 (by decide +kernel) (by decide +kernel), by decide, by decide +kernel⟩
theorem clvX12_cuts : Clv 12 yX12_cuts := ⟨gt_in 1789 (by decide +kernel) (by decide +kernel), gt_in 1790 (by decide +kernel) (by decide +kernel), by decide, _, _, rfl⟩
theorem clL_75 : Cl "SilentReelLaw" 75 yX11_crowd cX11_crowd 5 (some .int) 0 := ⟨gt_in 1048 (by decide +kernel) (by decide +kernel), gt_in 117 (by decide +kernel) (by decide +kernel), gt_in 1051 (by decide +kernel) (by decide +kernel), by decide, by decide +kernel⟩
theorem clvX11_crowd : Clv 11 yX11_crowd := ⟨gt_in 1049 (by decide +kernel) (by decide +kernel), gt_in 1050 (by decide +kernel) (by decide +kernel), by decide, _, _, rfl⟩
theorem clL_78 : Cl "SilentReelLaw" 78 yX12_crowd cX12_crowd 3 (some .int) 0 := ⟨gt_in 1796 (by decide +kernel) (by decide +kernel), gt_in 133 (by decide +kernel) (by decide +kernel), gt_in 1799 (by decide +kernel) (by decide +kernel), by decide, by decide +kernel⟩
theorem clvX12_crowd : Clv 12 yX12_crowd := ⟨gt_in 1797 (by decide +kernel) (by decide +kernel), gt_in 1798 (by decide +kernel) (by decide +kernel), by decide, _, _, rfl⟩
theorem clL_79 : Cl "SilentReelLaw" 79 yX11_empty cX11_empty 4 (some .int) 0 := ⟨gt_in 1052 (by decide +kernel) (by decide +kernel), gt_in 117 (by decide +kernel) (by decide +kernel), gt_in 1055 (by decide +kernel) (by decide +kernel), by decide, by decide +kernel⟩
theorem clvX11_empty : Clv 11 yX11_empty := ⟨gt_in 1053 (by decide +kernel) (by decide +kernel), gt_in 1054 (by decide +kernel) (by decide +kernel), by decide, _, _, rfl⟩
theorem clL_82 : Cl "SilentReelLaw" 82 yX12_empty cX12_empty 5 (some .int) 0 := ⟨gt_in 1800 (by decide +kernel) (by decide +kernel), gt_in 133 (by decide +kernel) (by decide +kernel), gt_in 1803 (by decide +kernel) (by decide +kernel), by decide, by decide +kernel⟩
theorem clvX12_empty : Clv 12 yX12_empty := ⟨gt_in 1801 (by decide +kernel) (by decide +kernel), gt_in 1802 (by decide +kernel) (by decide +kernel), by decide, _, _, rfl⟩
theorem clL_83 : Cl "SilentReelLaw" 83 yX11_later cX11_later 4 (some .int) 2 := ⟨gt_in 1060 (by decide +kernel) (by decide +kernel), gt_in 117 (by decide +kernel) (by decide +kernel), gt_in 1063 (by decide +kernel) (by decide +kernel), by decide, by decide +kernel⟩
theorem clvX11_later : Clv 11 yX11_later := ⟨gt_in 1061 (by decide +kernel) (by decide +kernel), gt_in 1062 (by decide +kernel) (by decide +kernel), by decide, _, _, rfl⟩
theorem clL_86 : Cl "SilentReelLaw" 86 yX12_later cX12_later 4 (some .int) 2 := ⟨gt_in 1804 (by decide +kernel) (by decide +kernel), gt_in 133 (by decide +kernel) (by decide +kernel), gt_in 1807 (by decide +kernel) (by decide +kernel), by decide, by decide +kernel⟩
theorem clvX12_later : Clv 12 yX12_later := ⟨gt_in 1805 (by decide +kernel) (by decide +kernel), gt_in 1806 (by decide +kernel) (by decide +kernel), by decide, _, _, rfl⟩
theorem clL_87 : Cl "SilentReelLaw" 87 yX11_meet cX11_meet 5 (some .int) 2 := ⟨gt_in 1073 (by decide +kernel) (by decide +kernel), gt_in 117 (by decide +kernel) (by decide +kernel), gt_in 1076 (by decide +kernel) (by decide +kernel), by decide, by decide +kernel⟩
theorem clvX11_meet : Clv 11 yX11_meet := ⟨gt_in 1074 (by decide +kernel) (by decide +kernel), gt_in 1075 (by decide +kernel) (by decide +kernel), by decide, _, _, rfl⟩
theorem clL_90 : Cl "SilentReelLaw" 90 yX12_meet cX12_meet 4 (some .int) 2 := ⟨gt_in 1820 (by decide +kernel) (by decide +kernel), gt_in 133 (by decide +kernel) (by decide +kernel), gt_in 1823 (by decide +kernel) (by decide +kernel), by decide, by decide +kernel⟩
theorem clvX12_meet : Clv 12 yX12_meet := ⟨gt_in 1821 (by decide +kernel) (by decide +kernel), gt_in 1822 (by decide +kernel) (by decide +kernel), by decide, _, _, rfl⟩
theorem clL_91 : Cl "SilentReelLaw" 91 yX11_round cX11_round 3 (some .int) 0 := ⟨gt_in 1081 (by decide +kernel) (by decide +kernel), gt_in 117 (by decide +kernel) (by decide +kernel), gt_in 1084 (by decide +kernel) (by decide +kernel), by decide, by decide +kernel⟩
theorem clvX11_round : Clv 11 yX11_round := ⟨gt_in 1082 (by decide +kernel) (by decide +kernel), gt_in 1083 (by decide +kernel) (by decide +kernel), by decide, _, _, rfl⟩
theorem clL_94 : Cl "SilentReelLaw" 94 yX12_round cX12_round 2 (some .int) 0 := ⟨gt_in 1828 (by decide +kernel) (by decide +kernel), gt_in 133 (by decide +kernel) (by decide +kernel), gt_in 1831 (by decide +kernel) (by decide +kernel), by decide, by decide +kernel⟩
theorem clvX12_round : Clv 12 yX12_round := ⟨gt_in 1829 (by decide +kernel) (by decide +kernel), gt_in 1830 (by decide +kernel) (by decide +kernel), by decide, _, _, rfl⟩
theorem clL_95 : Cl "SilentReelLaw" 95 yX11_see cX11_see 2 (some .int) 0 := ⟨gt_in 1089 (by decide +kernel) (by decide +kernel), gt_in 117 (by decide +kernel) (by decide +kernel), gt_in 1092 (by decide +kernel) (by decide +kernel), by decide, by decide +kernel⟩
theorem clvX11_see : Clv 11 yX11_see := ⟨gt_in 1090 (by decide +kernel) (by decide +kernel), gt_in 1091 (by decide +kernel) (by decide +kernel), by decide, _, _, rfl⟩
theorem clL_98 : Cl "SilentReelLaw" 98 yX12_see cX12_see 4 (some .int) 0 := ⟨gt_in 1836 (by decide +kernel) (by decide +kernel), gt_in 133 (by decide +kernel) (by decide +kernel), gt_in 1839 (by decide +kernel) (by decide +kernel), by decide, by decide +kernel⟩
theorem clvX12_see : Clv 12 yX12_see := ⟨gt_in 1837 (by decide +kernel) (by decide +kernel), gt_in 1838 (by decide +kernel) (by decide +kernel), by decide, _, _, rfl⟩
theorem clL_99 : Cl "SilentReelLaw" 99 yX11_began cX11_began 3 (some .int) 2 := ⟨gt_in 1099 (by decide +kernel) (by decide +kernel), gt_in 117 (by decide +kernel) (by decide +kernel), gt_in 1102 (by decide +kernel) (by decide +kernel), by decide, by decide +kernel⟩
theorem clvX11_began : Clv 11 yX11_began := ⟨gt_in 1100 (by decide +kernel) (by decide +kernel), gt_in 1101 (by decide +kernel) (by decide +kernel), by decide, _, _, rfl⟩
theorem clL_102 : Cl "SilentReelLaw" 102 yX12_began cX12_began 11 (some .int) 2 := ⟨gt_in 1840 (by decide +kernel) (by decide +kernel), gt_in 133 (by decide +kernel) (by decide +kernel), gt_in 1843 (by decide +kernel) (by decide +kernel), by decide, by decide +kernel⟩
theorem clvX12_began : Clv 12 yX12_began := ⟨gt_in 1841 (by decide +kernel) (by decide +kernel), gt_in 1842 (by decide +kernel) (by decide +kernel), by decide, _, _, rfl⟩
theorem clL_103 : Cl "SilentReelLaw" 103 yX11_days cX11_days 5 (some .int) 1 := ⟨gt_in 1130 (by decide +kernel) (by decide +kernel), gt_in 117 (by decide +kernel) (by decide +kernel), gt_in 1133 (by decide +kernel) (by decide +kernel), by decide, by decide +kernel⟩
theorem clvX11_days : Clv 11 yX11_days := ⟨gt_in 1131 (by decide +kernel) (by decide +kernel), gt_in 1132 (by decide +kernel) (by decide +kernel), by decide, _, _, rfl⟩
theorem clL_106 : Cl "SilentReelLaw" 106 yX12_days cX12_days 4 (some .int) 1 := ⟨gt_in 1848 (by decide +kernel) (by decide +kernel), gt_in 133 (by decide +kernel) (by decide +kernel), gt_in 1851 (by decide +kernel) (by decide +kernel), by decide, by decide +kernel⟩
theorem clvX12_days : Clv 12 yX12_days := ⟨gt_in 1849 (by decide +kernel) (by decide +kernel), gt_in 1850 (by decide +kernel) (by decide +kernel), by decide, _, _, rfl⟩
theorem clL_107 : Cl "SilentReelLaw" 107 yX11_chance cX11_chance 4 (some .int) 1 := ⟨gt_in 1148 (by decide +kernel) (by decide +kernel), gt_in 117 (by decide +kernel) (by decide +kernel), gt_in 1151 (by decide +kernel) (by decide +kernel), by decide, by decide +kernel⟩
theorem clvX11_chance : Clv 11 yX11_chance := ⟨gt_in 1149 (by decide +kernel) (by decide +kernel), gt_in 1150 (by decide +kernel) (by decide +kernel), by decide, _, _, rfl⟩
theorem clL_110 : Cl "SilentReelLaw" 110 yX12_chance cX12_chance 4 (some .int) 1 := ⟨gt_in 1856 (by decide +kernel) (by decide +kernel), gt_in 133 (by decide +kernel) (by decide +kernel), gt_in 1859 (by decide +kernel) (by decide +kernel), by decide, by decide +kernel⟩
theorem clvX12_chance : Clv 12 yX12_chance := ⟨gt_in 1857 (by decide +kernel) (by decide +kernel), gt_in 1858 (by decide +kernel) (by decide +kernel), by decide, _, _, rfl⟩
theorem clL_111 : Cl "SilentReelLaw" 111 yX11_show cX11_show 5 (some .boolean) 3 := ⟨gt_in 1163 (by decide +kernel) (by decide +kernel), gt_in 117 (by decide +kernel) (by decide +kernel), gt_in 1166 (by decide +kernel) (by decide +kernel), by decide, by decide +kernel⟩
theorem clvX11_show : Clv 11 yX11_show := ⟨gt_in 1164 (by decide +kernel) (by decide +kernel), gt_in 1165 (by decide +kernel) (by decide +kernel), by decide, _, _, rfl⟩
theorem clL_115 : Cl "SilentReelLaw" 115 yX12_show cX12_show 4 (some .boolean) 3 := ⟨gt_in 1868 (by decide +kernel) (by decide +kernel), gt_in 133 (by decide +kernel) (by decide +kernel), gt_in 1871 (by decide +kernel) (by decide +kernel), by decide, by decide +kernel⟩
theorem clvX12_show : Clv 12 yX12_show := ⟨gt_in 1869 (by decide +kernel) (by decide +kernel), gt_in 1870 (by decide +kernel) (by decide +kernel), by decide, _, _, rfl⟩
theorem clL_116 : Cl "SilentReelLaw" 116 yX11_cut cX11_cut 2 (some .boolean) 1 := ⟨gt_in 1172 (by decide +kernel) (by decide +kernel), gt_in 117 (by decide +kernel) (by decide +kernel), gt_in 1175 (by decide +kernel) (by decide +kernel), by decide, by decide +kernel⟩
theorem clvX11_cut : Clv 11 yX11_cut := ⟨gt_in 1173 (by decide +kernel) (by decide +kernel), gt_in 1174 (by decide +kernel) (by decide +kernel), by decide, _, _, rfl⟩
theorem clL_119 : Cl "SilentReelLaw" 119 yX12_cut cX12_cut 2 (some .boolean) 1 := ⟨gt_in 1872 (by decide +kernel) (by decide +kernel), gt_in 133 (by decide +kernel) (by decide +kernel), gt_in 1875 (by decide +kernel) (by decide +kernel), by decide, by decide +kernel⟩
theorem clvX12_cut : Clv 12 yX12_cut := ⟨gt_in 1873 (by decide +kernel) (by decide +kernel), gt_in 1874 (by decide +kernel) (by decide +kernel), by decide, _, _, rfl⟩
theorem clL_120 : Cl "SilentReelLaw" 120 yX11_watch cX11_watch 3 (some .boolean) 2 := ⟨gt_in 1176 (by decide +kernel) (by decide +kernel), gt_in 117 (by decide +kernel) (by decide +kernel), gt_in 1179 (by decide +kernel) (by decide +kernel), by decide, by decide +kernel⟩
theorem clvX11_watch : Clv 11 yX11_watch := ⟨gt_in 1177 (by decide +kernel) (by decide +kernel), gt_in 1178 (by decide +kernel) (by decide +kernel), by decide, _, _, rfl⟩
theorem clL_124 : Cl "SilentReelLaw" 124 yX12_watch cX12_watch 3 (some .boolean) 2 := ⟨gt_in 1876 (by decide +kernel) (by decide +kernel), gt_in 133 (by decide +kernel) (by decide +kernel), gt_in 1879 (by decide +kernel) (by decide +kernel), by decide, by decide +kernel⟩
theorem clvX12_watch : Clv 12 yX12_watch := ⟨gt_in 1877 (by decide +kernel) (by decide +kernel), gt_in 1878 (by decide +kernel) (by decide +kernel), by decide, _, _, rfl⟩
theorem clL_125 : Cl "SilentReelLaw" 125 yX11_send cX11_send 3 (some .boolean) 2 := ⟨gt_in 1180 (by decide +kernel) (by decide +kernel), gt_in 117 (by decide +kernel) (by decide +kernel), gt_in 1183 (by decide +kernel) (by decide +kernel), by decide, by decide +kernel⟩
theorem clvX11_send : Clv 11 yX11_send := ⟨gt_in 1181 (by decide +kernel) (by decide +kernel), gt_in 1182 (by decide +kernel) (by decide +kernel), by decide, _, _, rfl⟩
theorem clL_128 : Cl "SilentReelLaw" 128 yX12_send cX12_send 3 (some .boolean) 2 := ⟨gt_in 1880 (by decide +kernel) (by decide +kernel), gt_in 133 (by decide +kernel) (by decide +kernel), gt_in 1883 (by decide +kernel) (by decide +kernel), by decide, by decide +kernel⟩
theorem clvX12_send : Clv 12 yX12_send := ⟨gt_in 1881 (by decide +kernel) (by decide +kernel), gt_in 1882 (by decide +kernel) (by decide +kernel), by decide, _, _, rfl⟩
theorem clL_129 : Cl "SilentReelLaw" 129 yX11_undo cX11_undo 1 (some .boolean) 0 := ⟨gt_in 1184 (by decide +kernel) (by decide +kernel), gt_in 117 (by decide +kernel) (by decide +kernel), gt_in 1187 (by decide +kernel) (by decide +kernel), by decide, by decide +kernel⟩
theorem clvX11_undo : Clv 11 yX11_undo := ⟨gt_in 1185 (by decide +kernel) (by decide +kernel), gt_in 1186 (by decide +kernel) (by decide +kernel), by decide, _, _, rfl⟩
theorem clL_133 : Cl "SilentReelLaw" 133 yX12_undo cX12_undo 1 (some .boolean) 0 := ⟨gt_in 1665 (by decide +kernel) (by decide +kernel), gt_in 133 (by decide +kernel) (by decide +kernel), gt_in 1668 (by decide +kernel) (by decide +kernel), by decide, by decide +kernel⟩
theorem clvX12_undo : Clv 12 yX12_undo := ⟨gt_in 1666 (by decide +kernel) (by decide +kernel), gt_in 1667 (by decide +kernel) (by decide +kernel), by decide, _, _, rfl⟩
theorem clL_134 : Cl "SilentReelLaw" 134 yX11_seed cX11_seed 2 (some .boolean) 1 := ⟨gt_in 1192 (by decide +kernel) (by decide +kernel), gt_in 117 (by decide +kernel) (by decide +kernel), gt_in 1195 (by decide +kernel) (by decide +kernel), by decide, by decide +kernel⟩
theorem clvX11_seed : Clv 11 yX11_seed := ⟨gt_in 1193 (by decide +kernel) (by decide +kernel), gt_in 1194 (by decide +kernel) (by decide +kernel), by decide, _, _, rfl⟩
theorem clL_137 : Cl "SilentReelLaw" 137 yX12_seed cX12_seed 2 (some .boolean) 1 := ⟨gt_in 1884 (by decide +kernel) (by decide +kernel), gt_in 133 (by decide +kernel) (by decide +kernel), gt_in 1887 (by decide +kernel) (by decide +kernel), by decide, by decide +kernel⟩
theorem clvX12_seed : Clv 12 yX12_seed := ⟨gt_in 1885 (by decide +kernel) (by decide +kernel), gt_in 1886 (by decide +kernel) (by decide +kernel), by decide, _, _, rfl⟩
theorem clL_138 : Cl "SilentReelLaw" 138 yX11_kept cX11_kept 4 (some .int) 2 := ⟨gt_in 1196 (by decide +kernel) (by decide +kernel), gt_in 117 (by decide +kernel) (by decide +kernel), gt_in 1199 (by decide +kernel) (by decide +kernel), by decide, by decide +kernel⟩
theorem clvX11_kept : Clv 11 yX11_kept := ⟨gt_in 1197 (by decide +kernel) (by decide +kernel), gt_in 1198 (by decide +kernel) (by decide +kernel), by decide, _, _, rfl⟩
theorem clL_141 : Cl "SilentReelLaw" 141 yX12_kept cX12_kept 3 (some .int) 2 := ⟨gt_in 1888 (by decide +kernel) (by decide +kernel), gt_in 133 (by decide +kernel) (by decide +kernel), gt_in 1891 (by decide +kernel) (by decide +kernel), by decide, by decide +kernel⟩
theorem clvX12_kept : Clv 12 yX12_kept := ⟨gt_in 1889 (by decide +kernel) (by decide +kernel), gt_in 1890 (by decide +kernel) (by decide +kernel), by decide, _, _, rfl⟩
theorem clL_142 : Cl "SilentReelLaw" 142 yX11_image cX11_image 1 (some .int) 0 := ⟨gt_in 1204 (by decide +kernel) (by decide +kernel), gt_in 117 (by decide +kernel) (by decide +kernel), gt_in 1207 (by decide +kernel) (by decide +kernel), by decide, by decide +kernel⟩
theorem clvX11_image : Clv 11 yX11_image := ⟨gt_in 1205 (by decide +kernel) (by decide +kernel), gt_in 1206 (by decide +kernel) (by decide +kernel), by decide, _, _, rfl⟩
theorem clL_145 : Cl "SilentReelLaw" 145 yX12_image cX12_image 3 (some .int) 0 := ⟨gt_in 1892 (by decide +kernel) (by decide +kernel), gt_in 133 (by decide +kernel) (by decide +kernel), gt_in 1895 (by decide +kernel) (by decide +kernel), by decide, by decide +kernel⟩
theorem clvX12_image : Clv 12 yX12_image := ⟨gt_in 1893 (by decide +kernel) (by decide +kernel), gt_in 1894 (by decide +kernel) (by decide +kernel), by decide, _, _, rfl⟩
theorem clL_146 : Cl "SilentReelLaw" 146 yX11_octet cX11_octet 2 (some .int) 1 := ⟨gt_in 1220 (by decide +kernel) (by decide +kernel), gt_in 117 (by decide +kernel) (by decide +kernel), gt_in 1223 (by decide +kernel) (by decide +kernel), by decide, by decide +kernel⟩
theorem clvX11_octet : Clv 11 yX11_octet := ⟨gt_in 1221 (by decide +kernel) (by decide +kernel), gt_in 1222 (by decide +kernel) (by decide +kernel), by decide, _, _, rfl⟩
theorem clL_149 : Cl "SilentReelLaw" 149 yX12_octet cX12_octet 2 (some .int) 1 := ⟨gt_in 1900 (by decide +kernel) (by decide +kernel), gt_in 133 (by decide +kernel) (by decide +kernel), gt_in 1903 (by decide +kernel) (by decide +kernel), by decide, by decide +kernel⟩
theorem clvX12_octet : Clv 12 yX12_octet := ⟨gt_in 1901 (by decide +kernel) (by decide +kernel), gt_in 1902 (by decide +kernel) (by decide +kernel), by decide, _, _, rfl⟩
theorem clL_150 : Cl "SilentReelLaw" 150 yX11_on cX11_on 2 (some .boolean) 0 := ⟨gt_in 1224 (by decide +kernel) (by decide +kernel), gt_in 117 (by decide +kernel) (by decide +kernel), gt_in 1227 (by decide +kernel) (by decide +kernel), by decide, by decide +kernel⟩
theorem clvX11_on : Clv 11 yX11_on := ⟨gt_in 1225 (by decide +kernel) (by decide +kernel), gt_in 1226 (by decide +kernel) (by decide +kernel), by decide, _, _, rfl⟩
theorem clL_153 : Cl "SilentReelLaw" 153 yX12_on cX12_on 2 (some .boolean) 0 := ⟨gt_in 1904 (by decide +kernel) (by decide +kernel), gt_in 133 (by decide +kernel) (by decide +kernel), gt_in 1907 (by decide +kernel) (by decide +kernel), by decide, by decide +kernel⟩
theorem clvX12_on : Clv 12 yX12_on := ⟨gt_in 1905 (by decide +kernel) (by decide +kernel), gt_in 1906 (by decide +kernel) (by decide +kernel), by decide, _, _, rfl⟩
theorem clL_154 : Cl "SilentReelLaw" 154 yX11_status cX11_status 2 (some .int) 1 := ⟨gt_in 1240 (by decide +kernel) (by decide +kernel), gt_in 117 (by decide +kernel) (by decide +kernel), gt_in 1243 (by decide +kernel) (by decide +kernel), by decide, by decide +kernel⟩
theorem clvX11_status : Clv 11 yX11_status := ⟨gt_in 1241 (by decide +kernel) (by decide +kernel), gt_in 1242 (by decide +kernel) (by decide +kernel), by decide, _, _, rfl⟩
theorem clL_157 : Cl "SilentReelLaw" 157 yX12_status cX12_status 2 (some .int) 1 := ⟨gt_in 1661 (by decide +kernel) (by decide +kernel), gt_in 133 (by decide +kernel) (by decide +kernel), gt_in 1664 (by decide +kernel) (by decide +kernel), by decide, by decide +kernel⟩
theorem clvX12_status : Clv 12 yX12_status := ⟨gt_in 1662 (by decide +kernel) (by decide +kernel), gt_in 1663 (by decide +kernel) (by decide +kernel), by decide, _, _, rfl⟩
theorem clX12_228 : Cl RX12 228 yX12_isLetter cX12_isLetter 1 (some .boolean) 1 := ⟨gt_in 1482 (by decide +kernel) (by decide +kernel), gt_in 133 (by decide +kernel) (by decide +kernel), gt_in 1484 (by decide +kernel) (by decide +kernel), by decide, by decide +kernel⟩
theorem clsX12_isLetter : Cond.static yX12_isLetter ∈ GT := gt_in 1483 (by decide +kernel) (by decide +kernel)
theorem clX12_232 : Cl RX12 232 yX12_isDigit cX12_isDigit 1 (some .boolean) 1 := ⟨gt_in 1485 (by decide +kernel) (by decide +kernel), gt_in 133 (by decide +kernel) (by decide +kernel), gt_in 1487 (by decide +kernel) (by decide +kernel), by decide, by decide +kernel⟩
theorem clsX12_isDigit : Cond.static yX12_isDigit ∈ GT := gt_in 1486 (by decide +kernel) (by decide +kernel)
theorem clX12_300 : Cl RX12 300 yX12_is cX12_is 3 (some .boolean) 3 := ⟨gt_in 1579 (by decide +kernel) (by decide +kernel), gt_in 133 (by decide +kernel) (by decide +kernel), gt_in 1581 (by decide +kernel) (by decide +kernel), by decide, by decide +kernel⟩
theorem clsX12_is : Cond.static yX12_is ∈ GT := gt_in 1580 (by decide +kernel) (by decide +kernel)
theorem clX12_304 : Cl RX12 304 yX12_rank cX12_rank 1 (some .int) 1 := ⟨gt_in 1633 (by decide +kernel) (by decide +kernel), gt_in 133 (by decide +kernel) (by decide +kernel), gt_in 1635 (by decide +kernel) (by decide +kernel), by decide, by decide +kernel⟩
theorem clsX12_rank : Cond.static yX12_rank ∈ GT := gt_in 1634 (by decide +kernel) (by decide +kernel)
theorem clX12_313 : Cl RX12 313 yX12_isTest cX12_isTest 1 (some .boolean) 1 := ⟨gt_in 1606 (by decide +kernel) (by decide +kernel), gt_in 133 (by decide +kernel) (by decide +kernel), gt_in 1608 (by decide +kernel) (by decide +kernel), by decide, by decide +kernel⟩
theorem clsX12_isTest : Cond.static yX12_isTest ∈ GT := gt_in 1607 (by decide +kernel) (by decide +kernel)
theorem clX12_342 : Cl RX12 342 yX12_has2 cX12_has2 2 (some .boolean) 2 := ⟨gt_in 1564 (by decide +kernel) (by decide +kernel), gt_in 133 (by decide +kernel) (by decide +kernel), gt_in 1566 (by decide +kernel) (by decide +kernel), by decide, by decide +kernel⟩
theorem clsX12_has2 : Cond.static yX12_has2 ∈ GT := gt_in 1565 (by decide +kernel) (by decide +kernel)
theorem clX12_418 : Cl RX12 418 yX12_held cX12_held 2 (some .long) 1 := ⟨gt_in 1715 (by decide +kernel) (by decide +kernel), gt_in 133 (by decide +kernel) (by decide +kernel), gt_in 1717 (by decide +kernel) (by decide +kernel), by decide, by decide +kernel⟩
theorem clsX12_held : Cond.static yX12_held ∈ GT := gt_in 1716 (by decide +kernel) (by decide +kernel)
theorem clX12_422 : Cl RX12 422 yX12_floor cX12_floor 6 (some .long) 2 := ⟨gt_in 1720 (by decide +kernel) (by decide +kernel), gt_in 133 (by decide +kernel) (by decide +kernel), gt_in 1722 (by decide +kernel) (by decide +kernel), by decide, by decide +kernel⟩
theorem clsX12_floor : Cond.static yX12_floor ∈ GT := gt_in 1721 (by decide +kernel) (by decide +kernel)
theorem clX12_426 : Cl RX12 426 yX12_two cX12_two 5 (some .long) 3 := ⟨gt_in 1712 (by decide +kernel) (by decide +kernel), gt_in 133 (by decide +kernel) (by decide +kernel), gt_in 1714 (by decide +kernel) (by decide +kernel), by decide, by decide +kernel⟩
theorem clsX12_two : Cond.static yX12_two ∈ GT := gt_in 1713 (by decide +kernel) (by decide +kernel)
theorem clX12_465 : Cl RX12 465 yX12_bits cX12_bits 3 (some .int) 1 := ⟨gt_in 1681 (by decide +kernel) (by decide +kernel), gt_in 133 (by decide +kernel) (by decide +kernel), gt_in 1683 (by decide +kernel) (by decide +kernel), by decide, by decide +kernel⟩
theorem clsX12_bits : Cond.static yX12_bits ∈ GT := gt_in 1682 (by decide +kernel) (by decide +kernel)
theorem clX12_216 : Cl RX12 216 yX12_refuses cX12_refuses 2 (some .int) 1 := ⟨gt_in 1458 (by decide +kernel) (by decide +kernel), gt_in 133 (by decide +kernel) (by decide +kernel), gt_in 1461 (by decide +kernel) (by decide +kernel), by decide, by decide +kernel⟩
theorem clvX12_refuses : Clv 12 yX12_refuses := ⟨gt_in 1460 (by decide +kernel) (by decide +kernel), gt_in 51 (by decide +kernel) (by decide +kernel), by decide, _, _, rfl⟩
theorem clX12_220 : Cl RX12 220 yX12_put cX12_put 3 none 1 := ⟨gt_in 1462 (by decide +kernel) (by decide +kernel), gt_in 133 (by decide +kernel) (by decide +kernel), gt_in 1465 (by decide +kernel) (by decide +kernel), by decide, by decide +kernel⟩
theorem clvX12_put : Clv 12 yX12_put := ⟨gt_in 1464 (by decide +kernel) (by decide +kernel), gt_in 52 (by decide +kernel) (by decide +kernel), by decide, _, _, rfl⟩
theorem clX12_224 : Cl RX12 224 yX12_blame cX12_blame 3 none 2 := ⟨gt_in 1496 (by decide +kernel) (by decide +kernel), gt_in 133 (by decide +kernel) (by decide +kernel), gt_in 1499 (by decide +kernel) (by decide +kernel), by decide, by decide +kernel⟩
theorem clvX12_blame : Clv 12 yX12_blame := ⟨gt_in 1498 (by decide +kernel) (by decide +kernel), gt_in 57 (by decide +kernel) (by decide +kernel), by decide, _, _, rfl⟩
theorem clX12_235 : Cl RX12 235 yX12_lex cX12_lex 1 none 0 := ⟨gt_in 1492 (by decide +kernel) (by decide +kernel), gt_in 133 (by decide +kernel) (by decide +kernel), gt_in 1495 (by decide +kernel) (by decide +kernel), by decide, by decide +kernel⟩
theorem clvX12_lex : Clv 12 yX12_lex := ⟨gt_in 1494 (by decide +kernel) (by decide +kernel), gt_in 56 (by decide +kernel) (by decide +kernel), by decide, _, _, rfl⟩
theorem clX12_238 : Cl RX12 238 yX12_isSign cX12_isSign 2 (some .boolean) 1 := ⟨gt_in 1613 (by decide +kernel) (by decide +kernel), gt_in 133 (by decide +kernel) (by decide +kernel), gt_in 1616 (by decide +kernel) (by decide +kernel), by decide, by decide +kernel⟩
theorem clvX12_isSign : Clv 12 yX12_isSign := ⟨gt_in 1615 (by decide +kernel) (by decide +kernel), gt_in 78 (by decide +kernel) (by decide +kernel), by decide, _, _, rfl⟩
theorem clX12_241 : Cl RX12 241 yX12_ahead cX12_ahead 6 none 0 := ⟨gt_in 1478 (by decide +kernel) (by decide +kernel), gt_in 133 (by decide +kernel) (by decide +kernel), gt_in 1481 (by decide +kernel) (by decide +kernel), by decide, by decide +kernel⟩
theorem clvX12_ahead : Clv 12 yX12_ahead := ⟨gt_in 1480 (by decide +kernel) (by decide +kernel), gt_in 54 (by decide +kernel) (by decide +kernel), by decide, _, _, rfl⟩
theorem clX12_292 : Cl RX12 292 yX12_manyOf cX12_manyOf 3 (some .int) 2 := ⟨gt_in 1548 (by decide +kernel) (by decide +kernel), gt_in 133 (by decide +kernel) (by decide +kernel), gt_in 1551 (by decide +kernel) (by decide +kernel), by decide, by decide +kernel⟩
theorem clvX12_manyOf : Clv 12 yX12_manyOf := ⟨gt_in 1550 (by decide +kernel) (by decide +kernel), gt_in 64 (by decide +kernel) (by decide +kernel), by decide, _, _, rfl⟩
theorem clX12_296 : Cl RX12 296 yX12_nameOf cX12_nameOf 4 (some .long) 3 := ⟨gt_in 1552 (by decide +kernel) (by decide +kernel), gt_in 133 (by decide +kernel) (by decide +kernel), gt_in 1555 (by decide +kernel) (by decide +kernel), by decide, by decide +kernel⟩
theorem clvX12_nameOf : Clv 12 yX12_nameOf := ⟨gt_in 1554 (by decide +kernel) (by decide +kernel), gt_in 65 (by decide +kernel) (by decide +kernel), by decide, _, _, rfl⟩
theorem clX12_307 : Cl RX12 307 yX12_add cX12_add 3 none 2 := ⟨gt_in 1621 (by decide +kernel) (by decide +kernel), gt_in 133 (by decide +kernel) (by decide +kernel), gt_in 1624 (by decide +kernel) (by decide +kernel), by decide, by decide +kernel⟩
theorem clvX12_add : Clv 12 yX12_add := ⟨gt_in 1623 (by decide +kernel) (by decide +kernel), gt_in 80 (by decide +kernel) (by decide +kernel), by decide, _, _, rfl⟩
theorem clX12_310 : Cl RX12 310 yX12_pushes cX12_pushes 2 none 1 := ⟨gt_in 1598 (by decide +kernel) (by decide +kernel), gt_in 133 (by decide +kernel) (by decide +kernel), gt_in 1601 (by decide +kernel) (by decide +kernel), by decide, by decide +kernel⟩
theorem clvX12_pushes : Clv 12 yX12_pushes := ⟨gt_in 1600 (by decide +kernel) (by decide +kernel), gt_in 75 (by decide +kernel) (by decide +kernel), by decide, _, _, rfl⟩
theorem clX12_316 : Cl RX12 316 yX12_isWord cX12_isWord 3 (some .boolean) 1 := ⟨gt_in 1501 (by decide +kernel) (by decide +kernel), gt_in 133 (by decide +kernel) (by decide +kernel), gt_in 1504 (by decide +kernel) (by decide +kernel), by decide, by decide +kernel⟩
theorem clvX12_isWord : Clv 12 yX12_isWord := ⟨gt_in 1503 (by decide +kernel) (by decide +kernel), gt_in 58 (by decide +kernel) (by decide +kernel), by decide, _, _, rfl⟩
theorem clX12_320 : Cl RX12 320 yX12_holdsBack cX12_holdsBack 2 none 1 := ⟨gt_in 1609 (by decide +kernel) (by decide +kernel), gt_in 133 (by decide +kernel) (by decide +kernel), gt_in 1612 (by decide +kernel) (by decide +kernel), by decide, by decide +kernel⟩
theorem clvX12_holdsBack : Clv 12 yX12_holdsBack := ⟨gt_in 1611 (by decide +kernel) (by decide +kernel), gt_in 77 (by decide +kernel) (by decide +kernel), by decide, _, _, rfl⟩
theorem clX12_323 : Cl RX12 323 yX12_opens cX12_opens 2 none 1 := ⟨gt_in 1617 (by decide +kernel) (by decide +kernel), gt_in 133 (by decide +kernel) (by decide +kernel), gt_in 1620 (by decide +kernel) (by decide +kernel), by decide, by decide +kernel⟩
theorem clvX12_opens : Clv 12 yX12_opens := ⟨gt_in 1619 (by decide +kernel) (by decide +kernel), gt_in 79 (by decide +kernel) (by decide +kernel), by decide, _, _, rfl⟩
theorem clX12_326 : Cl RX12 326 yX12_joins cX12_joins 2 none 1 := ⟨gt_in 1629 (by decide +kernel) (by decide +kernel), gt_in 133 (by decide +kernel) (by decide +kernel), gt_in 1632 (by decide +kernel) (by decide +kernel), by decide, by decide +kernel⟩
theorem clvX12_joins : Clv 12 yX12_joins := ⟨gt_in 1631 (by decide +kernel) (by decide +kernel), gt_in 82 (by decide +kernel) (by decide +kernel), by decide, _, _, rfl⟩
theorem clX12_329 : Cl RX12 329 yX12_operand cX12_operand 4 (some .boolean) 0 := ⟨gt_in 1602 (by decide +kernel) (by decide +kernel), gt_in 133 (by decide +kernel) (by decide +kernel), gt_in 1605 (by decide +kernel) (by decide +kernel), by decide, by decide +kernel⟩
theorem clvX12_operand : Clv 12 yX12_operand := ⟨gt_in 1604 (by decide +kernel) (by decide +kernel), gt_in 76 (by decide +kernel) (by decide +kernel), by decide, _, _, rfl⟩
theorem clX12_332 : Cl RX12 332 yX12_goesOn cX12_goesOn 5 (some .boolean) 0 := ⟨gt_in 1625 (by decide +kernel) (by decide +kernel), gt_in 133 (by decide +kernel) (by decide +kernel), gt_in 1628 (by decide +kernel) (by decide +kernel), by decide, by decide +kernel⟩
theorem clvX12_goesOn : Clv 12 yX12_goesOn := ⟨gt_in 1627 (by decide +kernel) (by decide +kernel), gt_in 81 (by decide +kernel) (by decide +kernel), by decide, _, _, rfl⟩
theorem clX12_335 : Cl RX12 335 yX12_isOwn cX12_isOwn 3 (some .boolean) 1 := ⟨gt_in 1517 (by decide +kernel) (by decide +kernel), gt_in 133 (by decide +kernel) (by decide +kernel), gt_in 1520 (by decide +kernel) (by decide +kernel), by decide, by decide +kernel⟩
theorem clvX12_isOwn : Clv 12 yX12_isOwn := ⟨gt_in 1519 (by decide +kernel) (by decide +kernel), gt_in 62 (by decide +kernel) (by decide +kernel), by decide, _, _, rfl⟩
theorem clX12_338 : Cl RX12 338 yX12_named cX12_named 5 (some .int) 2 := ⟨gt_in 1544 (by decide +kernel) (by decide +kernel), gt_in 133 (by decide +kernel) (by decide +kernel), gt_in 1547 (by decide +kernel) (by decide +kernel), by decide, by decide +kernel⟩
theorem clvX12_named : Clv 12 yX12_named := ⟨gt_in 1546 (by decide +kernel) (by decide +kernel), gt_in 63 (by decide +kernel) (by decide +kernel), by decide, _, _, rfl⟩
theorem clX12_346 : Cl RX12 346 yX12_counts cX12_counts 2 (some .boolean) 1 := ⟨gt_in 1509 (by decide +kernel) (by decide +kernel), gt_in 133 (by decide +kernel) (by decide +kernel), gt_in 1512 (by decide +kernel) (by decide +kernel), by decide, by decide +kernel⟩
theorem clvX12_counts : Clv 12 yX12_counts := ⟨gt_in 1511 (by decide +kernel) (by decide +kernel), gt_in 60 (by decide +kernel) (by decide +kernel), by decide, _, _, rfl⟩
theorem clX12_350 : Cl RX12 350 yX12_fresh cX12_fresh 3 (some .long) 0 := ⟨gt_in 1513 (by decide +kernel) (by decide +kernel), gt_in 133 (by decide +kernel) (by decide +kernel), gt_in 1516 (by decide +kernel) (by decide +kernel), by decide, by decide +kernel⟩
theorem clvX12_fresh : Clv 12 yX12_fresh := ⟨gt_in 1515 (by decide +kernel) (by decide +kernel), gt_in 61 (by decide +kernel) (by decide +kernel), by decide, _, _, rfl⟩
theorem clX12_354 : Cl RX12 354 yX12_knownBut cX12_knownBut 4 (some .int) 2 := ⟨gt_in 1560 (by decide +kernel) (by decide +kernel), gt_in 133 (by decide +kernel) (by decide +kernel), gt_in 1563 (by decide +kernel) (by decide +kernel), by decide, by decide +kernel⟩
theorem clvX12_knownBut : Clv 12 yX12_knownBut := ⟨gt_in 1562 (by decide +kernel) (by decide +kernel), gt_in 67 (by decide +kernel) (by decide +kernel), by decide, _, _, rfl⟩
theorem clX12_357 : Cl RX12 357 yX12_must_ cX12_must_ 3 none 1 := ⟨gt_in 1567 (by decide +kernel) (by decide +kernel), gt_in 133 (by decide +kernel) (by decide +kernel), gt_in 1570 (by decide +kernel) (by decide +kernel), by decide, by decide +kernel⟩
theorem clvX12_must_ : Clv 12 yX12_must_ := ⟨gt_in 1569 (by decide +kernel) (by decide +kernel), gt_in 68 (by decide +kernel) (by decide +kernel), by decide, _, _, rfl⟩
theorem clX12_361 : Cl RX12 361 yX12_at cX12_at 4 (some .int) 3 := ⟨gt_in 1474 (by decide +kernel) (by decide +kernel), gt_in 133 (by decide +kernel) (by decide +kernel), gt_in 1477 (by decide +kernel) (by decide +kernel), by decide, by decide +kernel⟩
theorem clvX12_at : Clv 12 yX12_at := ⟨gt_in 1476 (by decide +kernel) (by decide +kernel), gt_in 53 (by decide +kernel) (by decide +kernel), by decide, _, _, rfl⟩
theorem clX12_365 : Cl RX12 365 yX12_number cX12_number 4 (some .int) 2 := ⟨gt_in 1575 (by decide +kernel) (by decide +kernel), gt_in 133 (by decide +kernel) (by decide +kernel), gt_in 1578 (by decide +kernel) (by decide +kernel), by decide, by decide +kernel⟩
theorem clvX12_number : Clv 12 yX12_number := ⟨gt_in 1577 (by decide +kernel) (by decide +kernel), gt_in 70 (by decide +kernel) (by decide +kernel), by decide, _, _, rfl⟩
theorem clX12_368 : Cl RX12 368 yX12_reads cX12_reads 3 none 1 := ⟨gt_in 1594 (by decide +kernel) (by decide +kernel), gt_in 133 (by decide +kernel) (by decide +kernel), gt_in 1597 (by decide +kernel) (by decide +kernel), by decide, by decide +kernel⟩
theorem clvX12_reads : Clv 12 yX12_reads := ⟨gt_in 1596 (by decide +kernel) (by decide +kernel), gt_in 74 (by decide +kernel) (by decide +kernel), by decide, _, _, rfl⟩
theorem clX12_372 : Cl RX12 372 yX12_placing cX12_placing 1 none 0 := ⟨gt_in 1505 (by decide +kernel) (by decide +kernel), gt_in 133 (by decide +kernel) (by decide +kernel), gt_in 1508 (by decide +kernel) (by decide +kernel), by decide, by decide +kernel⟩
theorem clvX12_placing : Clv 12 yX12_placing := ⟨gt_in 1507 (by decide +kernel) (by decide +kernel), gt_in 59 (by decide +kernel) (by decide +kernel), by decide, _, _, rfl⟩
theorem clX12_375 : Cl RX12 375 yX12_roading cX12_roading 4 none 0 := ⟨gt_in 1556 (by decide +kernel) (by decide +kernel), gt_in 133 (by decide +kernel) (by decide +kernel), gt_in 1559 (by decide +kernel) (by decide +kernel), by decide, by decide +kernel⟩
theorem clvX12_roading : Clv 12 yX12_roading := ⟨gt_in 1558 (by decide +kernel) (by decide +kernel), gt_in 66 (by decide +kernel) (by decide +kernel), by decide, _, _, rfl⟩
theorem clX12_378 : Cl RX12 378 yX12_personing cX12_personing 2 none 0 := ⟨gt_in 1571 (by decide +kernel) (by decide +kernel), gt_in 133 (by decide +kernel) (by decide +kernel), gt_in 1574 (by decide +kernel) (by decide +kernel), by decide, by decide +kernel⟩
theorem clvX12_personing : Clv 12 yX12_personing := ⟨gt_in 1573 (by decide +kernel) (by decide +kernel), gt_in 69 (by decide +kernel) (by decide +kernel), by decide, _, _, rfl⟩
theorem clX12_381 : Cl RX12 381 yX12_watching cX12_watching 2 none 0 := ⟨gt_in 1582 (by decide +kernel) (by decide +kernel), gt_in 133 (by decide +kernel) (by decide +kernel), gt_in 1585 (by decide +kernel) (by decide +kernel), by decide, by decide +kernel⟩
theorem clvX12_watching : Clv 12 yX12_watching := ⟨gt_in 1584 (by decide +kernel) (by decide +kernel), gt_in 71 (by decide +kernel) (by decide +kernel), by decide, _, _, rfl⟩
theorem clX12_384 : Cl RX12 384 yX12_framing cX12_framing 4 none 0 := ⟨gt_in 1586 (by decide +kernel) (by decide +kernel), gt_in 133 (by decide +kernel) (by decide +kernel), gt_in 1589 (by decide +kernel) (by decide +kernel), by decide, by decide +kernel⟩
theorem clvX12_framing : Clv 12 yX12_framing := ⟨gt_in 1588 (by decide +kernel) (by decide +kernel), gt_in 72 (by decide +kernel) (by decide +kernel), by decide, _, _, rfl⟩
theorem clX12_387 : Cl RX12 387 yX12_reading cX12_reading 3 none 1 := ⟨gt_in 1590 (by decide +kernel) (by decide +kernel), gt_in 133 (by decide +kernel) (by decide +kernel), gt_in 1593 (by decide +kernel) (by decide +kernel), by decide, by decide +kernel⟩
theorem clvX12_reading : Clv 12 yX12_reading := ⟨gt_in 1592 (by decide +kernel) (by decide +kernel), gt_in 73 (by decide +kernel) (by decide +kernel), by decide, _, _, rfl⟩
theorem clX12_390 : Cl RX12 390 yX12_raining cX12_raining 2 none 0 := ⟨gt_in 1636 (by decide +kernel) (by decide +kernel), gt_in 133 (by decide +kernel) (by decide +kernel), gt_in 1639 (by decide +kernel) (by decide +kernel), by decide, by decide +kernel⟩
theorem clvX12_raining : Clv 12 yX12_raining := ⟨gt_in 1638 (by decide +kernel) (by decide +kernel), gt_in 83 (by decide +kernel) (by decide +kernel), by decide, _, _, rfl⟩
theorem clX12_393 : Cl RX12 393 yX12_must cX12_must 2 none 1 := ⟨gt_in 1644 (by decide +kernel) (by decide +kernel), gt_in 133 (by decide +kernel) (by decide +kernel), gt_in 1647 (by decide +kernel) (by decide +kernel), by decide, by decide +kernel⟩
theorem clvX12_must : Clv 12 yX12_must := ⟨gt_in 1646 (by decide +kernel) (by decide +kernel), gt_in 85 (by decide +kernel) (by decide +kernel), by decide, _, _, rfl⟩
theorem clX12_396 : Cl RX12 396 yX12_statement cX12_statement 1 none 0 := ⟨gt_in 1488 (by decide +kernel) (by decide +kernel), gt_in 133 (by decide +kernel) (by decide +kernel), gt_in 1491 (by decide +kernel) (by decide +kernel), by decide, by decide +kernel⟩
theorem clvX12_statement : Clv 12 yX12_statement := ⟨gt_in 1490 (by decide +kernel) (by decide +kernel), gt_in 55 (by decide +kernel) (by decide +kernel), by decide, _, _, rfl⟩
theorem clX12_399 : Cl RX12 399 yX12_finishes cX12_finishes 3 none 1 := ⟨gt_in 1640 (by decide +kernel) (by decide +kernel), gt_in 133 (by decide +kernel) (by decide +kernel), gt_in 1643 (by decide +kernel) (by decide +kernel), by decide, by decide +kernel⟩
theorem clvX12_finishes : Clv 12 yX12_finishes := ⟨gt_in 1642 (by decide +kernel) (by decide +kernel), gt_in 84 (by decide +kernel) (by decide +kernel), by decide, _, _, rfl⟩
theorem clX12_402 : Cl RX12 402 yX12_measures cX12_measures 5 none 0 := ⟨gt_in 1648 (by decide +kernel) (by decide +kernel), gt_in 133 (by decide +kernel) (by decide +kernel), gt_in 1651 (by decide +kernel) (by decide +kernel), by decide, by decide +kernel⟩
theorem clvX12_measures : Clv 12 yX12_measures := ⟨gt_in 1650 (by decide +kernel) (by decide +kernel), gt_in 86 (by decide +kernel) (by decide +kernel), by decide, _, _, rfl⟩
theorem clX12_405 : Cl RX12 405 yX12_begin cX12_begin 2 none 0 := ⟨gt_in 1653 (by decide +kernel) (by decide +kernel), gt_in 133 (by decide +kernel) (by decide +kernel), gt_in 1656 (by decide +kernel) (by decide +kernel), by decide, by decide +kernel⟩
theorem clvX12_begin : Clv 12 yX12_begin := ⟨gt_in 1655 (by decide +kernel) (by decide +kernel), gt_in 87 (by decide +kernel) (by decide +kernel), by decide, _, _, rfl⟩
theorem clX12_408 : Cl RX12 408 yX12_slot cX12_slot 2 (some .int) 1 := ⟨gt_in 1669 (by decide +kernel) (by decide +kernel), gt_in 133 (by decide +kernel) (by decide +kernel), gt_in 1672 (by decide +kernel) (by decide +kernel), by decide, by decide +kernel⟩
theorem clvX12_slot : Clv 12 yX12_slot := ⟨gt_in 1671 (by decide +kernel) (by decide +kernel), gt_in 88 (by decide +kernel) (by decide +kernel), by decide, _, _, rfl⟩
theorem clX12_411 : Cl RX12 411 yX12_copies cX12_copies 4 none 2 := ⟨gt_in 1673 (by decide +kernel) (by decide +kernel), gt_in 133 (by decide +kernel) (by decide +kernel), gt_in 1676 (by decide +kernel) (by decide +kernel), by decide, by decide +kernel⟩
theorem clvX12_copies : Clv 12 yX12_copies := ⟨gt_in 1675 (by decide +kernel) (by decide +kernel), gt_in 89 (by decide +kernel) (by decide +kernel), by decide, _, _, rfl⟩
theorem clX12_430 : Cl RX12 430 yX12_manyAt cX12_manyAt 5 (some .int) 2 := ⟨gt_in 1696 (by decide +kernel) (by decide +kernel), gt_in 133 (by decide +kernel) (by decide +kernel), gt_in 1699 (by decide +kernel) (by decide +kernel), by decide, by decide +kernel⟩
theorem clvX12_manyAt : Clv 12 yX12_manyAt := ⟨gt_in 1698 (by decide +kernel) (by decide +kernel), gt_in 93 (by decide +kernel) (by decide +kernel), by decide, _, _, rfl⟩
theorem clX12_433 : Cl RX12 433 yX12_shownAt cX12_shownAt 6 (some .int) 3 := ⟨gt_in 1700 (by decide +kernel) (by decide +kernel), gt_in 133 (by decide +kernel) (by decide +kernel), gt_in 1703 (by decide +kernel) (by decide +kernel), by decide, by decide +kernel⟩
theorem clvX12_shownAt : Clv 12 yX12_shownAt := ⟨gt_in 1702 (by decide +kernel) (by decide +kernel), gt_in 94 (by decide +kernel) (by decide +kernel), by decide, _, _, rfl⟩
theorem clX12_436 : Cl RX12 436 yX12_tells cX12_tells 7 none 4 := ⟨gt_in 1692 (by decide +kernel) (by decide +kernel), gt_in 133 (by decide +kernel) (by decide +kernel), gt_in 1695 (by decide +kernel) (by decide +kernel), by decide, by decide +kernel⟩
theorem clvX12_tells : Clv 12 yX12_tells := ⟨gt_in 1694 (by decide +kernel) (by decide +kernel), gt_in 92 (by decide +kernel) (by decide +kernel), by decide, _, _, rfl⟩
theorem clX12_440 : Cl RX12 440 yX12_isTold cX12_isTold 2 (some .boolean) 1 := ⟨gt_in 1704 (by decide +kernel) (by decide +kernel), gt_in 133 (by decide +kernel) (by decide +kernel), gt_in 1707 (by decide +kernel) (by decide +kernel), by decide, by decide +kernel⟩
theorem clvX12_isTold : Clv 12 yX12_isTold := ⟨gt_in 1706 (by decide +kernel) (by decide +kernel), gt_in 95 (by decide +kernel) (by decide +kernel), by decide, _, _, rfl⟩
theorem clX12_443 : Cl RX12 443 yX12_reckons cX12_reckons 5 (some .long) 1 := ⟨gt_in 1708 (by decide +kernel) (by decide +kernel), gt_in 133 (by decide +kernel) (by decide +kernel), gt_in 1711 (by decide +kernel) (by decide +kernel), by decide, by decide +kernel⟩
theorem clvX12_reckons : Clv 12 yX12_reckons := ⟨gt_in 1710 (by decide +kernel) (by decide +kernel), gt_in 96 (by decide +kernel) (by decide +kernel), by decide, _, _, rfl⟩
theorem clX12_447 : Cl RX12 447 yX12_nextOf cX12_nextOf 11 (some .int) 3 := ⟨gt_in 1688 (by decide +kernel) (by decide +kernel), gt_in 133 (by decide +kernel) (by decide +kernel), gt_in 1691 (by decide +kernel) (by decide +kernel), by decide, by decide +kernel⟩
theorem clvX12_nextOf : Clv 12 yX12_nextOf := ⟨gt_in 1690 (by decide +kernel) (by decide +kernel), gt_in 91 (by decide +kernel) (by decide +kernel), by decide, _, _, rfl⟩
theorem clX12_450 : Cl RX12 450 yX12_isTrue cX12_isTrue 4 (some .boolean) 2 := ⟨gt_in 1727 (by decide +kernel) (by decide +kernel), gt_in 133 (by decide +kernel) (by decide +kernel), gt_in 1730 (by decide +kernel) (by decide +kernel), by decide, by decide +kernel⟩
theorem clvX12_isTrue : Clv 12 yX12_isTrue := ⟨gt_in 1729 (by decide +kernel) (by decide +kernel), gt_in 98 (by decide +kernel) (by decide +kernel), by decide, _, _, rfl⟩
theorem clX12_453 : Cl RX12 453 yX12_runs cX12_runs 4 none 1 := ⟨gt_in 1684 (by decide +kernel) (by decide +kernel), gt_in 133 (by decide +kernel) (by decide +kernel), gt_in 1687 (by decide +kernel) (by decide +kernel), by decide, by decide +kernel⟩
theorem clvX12_runs : Clv 12 yX12_runs := ⟨gt_in 1686 (by decide +kernel) (by decide +kernel), gt_in 90 (by decide +kernel) (by decide +kernel), by decide, _, _, rfl⟩
theorem clX12_456 : Cl RX12 456 yX12_trues cX12_trues 4 (some .int) 1 := ⟨gt_in 1723 (by decide +kernel) (by decide +kernel), gt_in 133 (by decide +kernel) (by decide +kernel), gt_in 1726 (by decide +kernel) (by decide +kernel), by decide, by decide +kernel⟩
theorem clvX12_trues : Clv 12 yX12_trues := ⟨gt_in 1725 (by decide +kernel) (by decide +kernel), gt_in 97 (by decide +kernel) (by decide +kernel), by decide, _, _, rfl⟩
theorem clX12_459 : Cl RX12 459 yX12_isAgreed cX12_isAgreed 2 (some .boolean) 1 := ⟨gt_in 1772 (by decide +kernel) (by decide +kernel), gt_in 133 (by decide +kernel) (by decide +kernel), gt_in 1775 (by decide +kernel) (by decide +kernel), by decide, by decide +kernel⟩
theorem clvX12_isAgreed : Clv 12 yX12_isAgreed := ⟨gt_in 1774 (by decide +kernel) (by decide +kernel), gt_in 102 (by decide +kernel) (by decide +kernel), by decide, _, _, rfl⟩
theorem clX12_462 : Cl RX12 462 yX12_writesDown cX12_writesDown 4 none 2 := ⟨gt_in 1816 (by decide +kernel) (by decide +kernel), gt_in 133 (by decide +kernel) (by decide +kernel), gt_in 1819 (by decide +kernel) (by decide +kernel), by decide, by decide +kernel⟩
theorem clvX12_writesDown : Clv 12 yX12_writesDown := ⟨gt_in 1818 (by decide +kernel) (by decide +kernel), gt_in 108 (by decide +kernel) (by decide +kernel), by decide, _, _, rfl⟩
theorem clX12_470 : Cl RX12 470 yX12_isPlace cX12_isPlace 2 (some .boolean) 1 := ⟨gt_in 1740 (by decide +kernel) (by decide +kernel), gt_in 133 (by decide +kernel) (by decide +kernel), gt_in 1743 (by decide +kernel) (by decide +kernel), by decide, by decide +kernel⟩
theorem clvX12_isPlace : Clv 12 yX12_isPlace := ⟨gt_in 1742 (by decide +kernel) (by decide +kernel), gt_in 99 (by decide +kernel) (by decide +kernel), by decide, _, _, rfl⟩
theorem clX12_473 : Cl RX12 473 yX12_isPerson cX12_isPerson 2 (some .boolean) 1 := ⟨gt_in 1748 (by decide +kernel) (by decide +kernel), gt_in 133 (by decide +kernel) (by decide +kernel), gt_in 1751 (by decide +kernel) (by decide +kernel), by decide, by decide +kernel⟩
theorem clvX12_isPerson : Clv 12 yX12_isPerson := ⟨gt_in 1750 (by decide +kernel) (by decide +kernel), gt_in 100 (by decide +kernel) (by decide +kernel), by decide, _, _, rfl⟩
theorem clX12_476 : Cl RX12 476 yX12_whoAt cX12_whoAt 5 (some .int) 2 := ⟨gt_in 1756 (by decide +kernel) (by decide +kernel), gt_in 133 (by decide +kernel) (by decide +kernel), gt_in 1759 (by decide +kernel) (by decide +kernel), by decide, by decide +kernel⟩
theorem clvX12_whoAt : Clv 12 yX12_whoAt := ⟨gt_in 1758 (by decide +kernel) (by decide +kernel), gt_in 101 (by decide +kernel) (by decide +kernel), by decide, _, _, rfl⟩
theorem clX12_479 : Cl RX12 479 yX12_frameAt cX12_frameAt 5 (some .int) 3 := ⟨gt_in 1780 (by decide +kernel) (by decide +kernel), gt_in 133 (by decide +kernel) (by decide +kernel), gt_in 1783 (by decide +kernel) (by decide +kernel), by decide, by decide +kernel⟩
theorem clvX12_frameAt : Clv 12 yX12_frameAt := ⟨gt_in 1782 (by decide +kernel) (by decide +kernel), gt_in 103 (by decide +kernel) (by decide +kernel), by decide, _, _, rfl⟩
theorem clX12_482 : Cl RX12 482 yX12_shows cX12_shows 6 none 4 := ⟨gt_in 1784 (by decide +kernel) (by decide +kernel), gt_in 133 (by decide +kernel) (by decide +kernel), gt_in 1787 (by decide +kernel) (by decide +kernel), by decide, by decide +kernel⟩
theorem clvX12_shows : Clv 12 yX12_shows := ⟨gt_in 1786 (by decide +kernel) (by decide +kernel), gt_in 104 (by decide +kernel) (by decide +kernel), by decide, _, _, rfl⟩
theorem clX12_485 : Cl RX12 485 yX12_takes cX12_takes 4 none 2 := ⟨gt_in 1792 (by decide +kernel) (by decide +kernel), gt_in 133 (by decide +kernel) (by decide +kernel), gt_in 1795 (by decide +kernel) (by decide +kernel), by decide, by decide +kernel⟩
theorem clvX12_takes : Clv 12 yX12_takes := ⟨gt_in 1794 (by decide +kernel) (by decide +kernel), gt_in 105 (by decide +kernel) (by decide +kernel), by decide, _, _, rfl⟩
theorem clX12_488 : Cl RX12 488 yX12_isAhead cX12_isAhead 4 (some .boolean) 3 := ⟨gt_in 1808 (by decide +kernel) (by decide +kernel), gt_in 133 (by decide +kernel) (by decide +kernel), gt_in 1811 (by decide +kernel) (by decide +kernel), by decide, by decide +kernel⟩
theorem clvX12_isAhead : Clv 12 yX12_isAhead := ⟨gt_in 1810 (by decide +kernel) (by decide +kernel), gt_in 106 (by decide +kernel) (by decide +kernel), by decide, _, _, rfl⟩
theorem clX12_491 : Cl RX12 491 yX12_passes cX12_passes 4 (some .boolean) 1 := ⟨gt_in 1812 (by decide +kernel) (by decide +kernel), gt_in 133 (by decide +kernel) (by decide +kernel), gt_in 1815 (by decide +kernel) (by decide +kernel), by decide, by decide +kernel⟩
theorem clvX12_passes : Clv 12 yX12_passes := ⟨gt_in 1814 (by decide +kernel) (by decide +kernel), gt_in 107 (by decide +kernel) (by decide +kernel), by decide, _, _, rfl⟩
theorem clX12_494 : Cl RX12 494 yX12_areTogether cX12_areTogether 4 (some .boolean) 2 := ⟨gt_in 1824 (by decide +kernel) (by decide +kernel), gt_in 133 (by decide +kernel) (by decide +kernel), gt_in 1827 (by decide +kernel) (by decide +kernel), by decide, by decide +kernel⟩
theorem clvX12_areTogether : Clv 12 yX12_areTogether := ⟨gt_in 1826 (by decide +kernel) (by decide +kernel), gt_in 109 (by decide +kernel) (by decide +kernel), by decide, _, _, rfl⟩
theorem clX12_497 : Cl RX12 497 yX12_isAsNow cX12_isAsNow 2 (some .boolean) 0 := ⟨gt_in 1832 (by decide +kernel) (by decide +kernel), gt_in 133 (by decide +kernel) (by decide +kernel), gt_in 1835 (by decide +kernel) (by decide +kernel), by decide, by decide +kernel⟩
theorem clvX12_isAsNow : Clv 12 yX12_isAsNow := ⟨gt_in 1834 (by decide +kernel) (by decide +kernel), gt_in 110 (by decide +kernel) (by decide +kernel), by decide, _, _, rfl⟩
theorem clX12_500 : Cl RX12 500 yX12_beganBits cX12_beganBits 7 (some .int) 1 := ⟨gt_in 1844 (by decide +kernel) (by decide +kernel), gt_in 133 (by decide +kernel) (by decide +kernel), gt_in 1847 (by decide +kernel) (by decide +kernel), by decide, by decide +kernel⟩
theorem clvX12_beganBits : Clv 12 yX12_beganBits := ⟨gt_in 1846 (by decide +kernel) (by decide +kernel), gt_in 111 (by decide +kernel) (by decide +kernel), by decide, _, _, rfl⟩
theorem clX12_503 : Cl RX12 503 yX12_keeps cX12_keeps 1 none 0 := ⟨gt_in 1852 (by decide +kernel) (by decide +kernel), gt_in 133 (by decide +kernel) (by decide +kernel), gt_in 1855 (by decide +kernel) (by decide +kernel), by decide, by decide +kernel⟩
theorem clvX12_keeps : Clv 12 yX12_keeps := ⟨gt_in 1854 (by decide +kernel) (by decide +kernel), gt_in 112 (by decide +kernel) (by decide +kernel), by decide, _, _, rfl⟩
theorem clX12_514 : Cl RX12 514 yX12_draw cX12_draw 2 (some .int) 1 := ⟨gt_in 1860 (by decide +kernel) (by decide +kernel), gt_in 133 (by decide +kernel) (by decide +kernel), gt_in 1863 (by decide +kernel) (by decide +kernel), by decide, by decide +kernel⟩
theorem clvX12_draw : Clv 12 yX12_draw := ⟨gt_in 1862 (by decide +kernel) (by decide +kernel), gt_in 113 (by decide +kernel) (by decide +kernel), by decide, _, _, rfl⟩
theorem clX12_517 : Cl RX12 517 yX12_writes cX12_writes 2 none 1 := ⟨gt_in 1896 (by decide +kernel) (by decide +kernel), gt_in 133 (by decide +kernel) (by decide +kernel), gt_in 1899 (by decide +kernel) (by decide +kernel), by decide, by decide +kernel⟩
theorem clvX12_writes : Clv 12 yX12_writes := ⟨gt_in 1898 (by decide +kernel) (by decide +kernel), gt_in 114 (by decide +kernel) (by decide +kernel), by decide, _, _, rfl⟩
theorem clX12_520 : Cl RX12 520 yX12_comesOn cX12_comesOn 6 (some .boolean) 1 := ⟨gt_in 1908 (by decide +kernel) (by decide +kernel), gt_in 133 (by decide +kernel) (by decide +kernel), gt_in 1911 (by decide +kernel) (by decide +kernel), by decide, by decide +kernel⟩
theorem clvX12_comesOn : Clv 12 yX12_comesOn := ⟨gt_in 1910 (by decide +kernel) (by decide +kernel), gt_in 115 (by decide +kernel) (by decide +kernel), by decide, _, _, rfl⟩
theorem kX12_244 : Cond.constantLong RX12 244 (482854658917 : Int64) ∈ GT := gt_in 1500 (by decide +kernel) (by decide +kernel)
theorem kX12_246 : Cond.constantLong RX12 246 (1919902052 : Int64) ∈ GT := gt_in 1521 (by decide +kernel) (by decide +kernel)
theorem kX12_248 : Cond.constantLong RX12 248 (29807 : Int64) ∈ GT := gt_in 1522 (by decide +kernel) (by decide +kernel)
theorem kX12_250 : Cond.constantLong RX12 250 (123581014175598 : Int64) ∈ GT := gt_in 1523 (by decide +kernel) (by decide +kernel)
theorem kX12_252 : Cond.constantLong RX12 252 (24948 : Int64) ∈ GT := gt_in 1524 (by decide +kernel) (by decide +kernel)
theorem kX12_254 : Cond.constantLong RX12 254 (1802071652 : Int64) ∈ GT := gt_in 1525 (by decide +kernel) (by decide +kernel)
theorem kX12_256 : Cond.constantLong RX12 256 (512736125800 : Int64) ∈ GT := gt_in 1526 (by decide +kernel) (by decide +kernel)
theorem kX12_258 : Cond.constantLong RX12 258 (440005651813 : Int64) ∈ GT := gt_in 1527 (by decide +kernel) (by decide +kernel)
theorem kX12_260 : Cond.constantLong RX12 260 (495873784179 : Int64) ∈ GT := gt_in 1528 (by decide +kernel) (by decide +kernel)
theorem kX12_262 : Cond.constantLong RX12 262 (1735353715 : Int64) ∈ GT := gt_in 1529 (by decide +kernel) (by decide +kernel)
theorem kX12_264 : Cond.constantLong RX12 264 (1918986606 : Int64) ∈ GT := gt_in 1530 (by decide +kernel) (by decide +kernel)
theorem kX12_266 : Cond.constantLong RX12 266 (1937007984 : Int64) ∈ GT := gt_in 1531 (by decide +kernel) (by decide +kernel)
theorem kX12_268 : Cond.constantLong RX12 268 (6578553 : Int64) ∈ GT := gt_in 1532 (by decide +kernel) (by decide +kernel)
theorem kX12_270 : Cond.constantLong RX12 270 (1751478885 : Int64) ∈ GT := gt_in 1533 (by decide +kernel) (by decide +kernel)
theorem kX12_272 : Cond.constantLong RX12 272 (495673374574 : Int64) ∈ GT := gt_in 1534 (by decide +kernel) (by decide +kernel)
theorem kX12_274 : Cond.constantLong RX12 274 (499967685221 : Int64) ∈ GT := gt_in 1535 (by decide +kernel) (by decide +kernel)
theorem kX12_276 : Cond.constantLong RX12 276 (6709618 : Int64) ∈ GT := gt_in 1536 (by decide +kernel) (by decide +kernel)
theorem kX12_278 : Cond.constantLong RX12 278 (26982 : Int64) ∈ GT := gt_in 1537 (by decide +kernel) (by decide +kernel)
theorem kX12_280 : Cond.constantLong RX12 280 (28530 : Int64) ∈ GT := gt_in 1538 (by decide +kernel) (by decide +kernel)
theorem kX12_282 : Cond.constantLong RX12 282 (6385252 : Int64) ∈ GT := gt_in 1539 (by decide +kernel) (by decide +kernel)
theorem kX12_284 : Cond.constantLong RX12 284 (7237492 : Int64) ∈ GT := gt_in 1540 (by decide +kernel) (by decide +kernel)
theorem kX12_286 : Cond.constantLong RX12 286 (6384748 : Int64) ∈ GT := gt_in 1541 (by decide +kernel) (by decide +kernel)
theorem kX12_288 : Cond.constantLong RX12 288 (7170414 : Int64) ∈ GT := gt_in 1542 (by decide +kernel) (by decide +kernel)
theorem kX12_290 : Cond.constantLong RX12 290 (7168376 : Int64) ∈ GT := gt_in 1543 (by decide +kernel) (by decide +kernel)
theorem kX12_414 : Cond.constantLong RX12 414 (1000000 : Int64) ∈ GT := gt_in 1718 (by decide +kernel) (by decide +kernel)
theorem kX12_416 : Cond.constantLong RX12 416 (-1000000 : Int64) ∈ GT := gt_in 1719 (by decide +kernel) (by decide +kernel)
theorem kX12_468 : Cond.constantLong RX12 468 (255 : Int64) ∈ GT := gt_in 1735 (by decide +kernel) (by decide +kernel)
theorem kX12_506 : Cond.constantLong RX12 506 (1103515245 : Int64) ∈ GT := gt_in 1864 (by decide +kernel) (by decide +kernel)
theorem kX12_508 : Cond.constantLong RX12 508 (12345 : Int64) ∈ GT := gt_in 1865 (by decide +kernel) (by decide +kernel)
theorem kX12_510 : Cond.constantLong RX12 510 (2147483648 : Int64) ∈ GT := gt_in 1866 (by decide +kernel) (by decide +kernel)
theorem kX12_512 : Cond.constantLong RX12 512 (64 : Int64) ∈ GT := gt_in 1867 (by decide +kernel) (by decide +kernel)
theorem kX12_395 : Cond.constant RX12 395 (100000000 : Int32) ∈ GT := gt_in 1652 (by decide +kernel) (by decide +kernel)
theorem kJ6_265 : Cond.constant RJ6 265 (1431655765 : Int32) ∈ GT := gt_in 867 (by decide +kernel) (by decide +kernel)
theorem kJ6_266 : Cond.constant RJ6 266 (858993459 : Int32) ∈ GT := gt_in 868 (by decide +kernel) (by decide +kernel)
theorem kJ6_267 : Cond.constant RJ6 267 (252645135 : Int32) ∈ GT := gt_in 869 (by decide +kernel) (by decide +kernel)
theorem clJ0_495 : Cl RJ0 495 yJ1_charAt_3b067 cJ1_charAt_3b067 2 (some .char) 2 := ⟨gt_in 166 (by decide +kernel) (by decide +kernel), gt_in 120 (by decide +kernel) (by decide +kernel), gt_in 168 (by decide +kernel) (by decide +kernel), by decide, by decide +kernel⟩
theorem clsJ1_charAt_3b067 : Cond.static yJ1_charAt_3b067 ∈ GT := gt_in 167 (by decide +kernel) (by decide +kernel)
theorem clJ0_498 : Cl RJ0 498 yJ2_charAt_3b067 cJ2_charAt_3b067 2 (some .char) 2 := ⟨gt_in 177 (by decide +kernel) (by decide +kernel), gt_in 122 (by decide +kernel) (by decide +kernel), gt_in 179 (by decide +kernel) (by decide +kernel), by decide, by decide +kernel⟩
theorem clsJ2_charAt_3b067 : Cond.static yJ2_charAt_3b067 ∈ GT := gt_in 178 (by decide +kernel) (by decide +kernel)
theorem clJ0_1059 : Cl RJ0 1059 yJ3_checkIndex_8e157 cJ3_checkIndex_8e157 3 (some .int) 3 := ⟨gt_in 174 (by decide +kernel) (by decide +kernel), gt_in 121 (by decide +kernel) (by decide +kernel), gt_in 176 (by decide +kernel) (by decide +kernel), by decide, by decide +kernel⟩
theorem clsJ3_checkIndex_8e157 : Cond.static yJ3_checkIndex_8e157 ∈ GT := gt_in 175 (by decide +kernel) (by decide +kernel)
theorem clJ0_492 : Cl RJ0 492 yJ0_isLatin1_aae02 cJ0_isLatin1_aae02 1 (some .boolean) 0 := ⟨gt_in 160 (by decide +kernel) (by decide +kernel), gt_in 119 (by decide +kernel) (by decide +kernel), gt_in 163 (by decide +kernel) (by decide +kernel), by decide, by decide +kernel⟩
theorem clJ1_9 : Cl RJ1 9 yJ0_checkIndex_df160 cJ0_checkIndex_df160 2 none 2 := ⟨gt_in 169 (by decide +kernel) (by decide +kernel), gt_in 119 (by decide +kernel) (by decide +kernel), gt_in 171 (by decide +kernel) (by decide +kernel), by decide, by decide +kernel⟩
theorem clsJ0_checkIndex_df160 : Cond.static yJ0_checkIndex_df160 ∈ GT := gt_in 170 (by decide +kernel) (by decide +kernel)
theorem clJ2_48 : Cl RJ2 48 yJ2_length_9d52b cJ2_length_9d52b 1 (some .int) 1 := ⟨gt_in 183 (by decide +kernel) (by decide +kernel), gt_in 122 (by decide +kernel) (by decide +kernel), gt_in 185 (by decide +kernel) (by decide +kernel), by decide, by decide +kernel⟩
theorem clsJ2_length_9d52b : Cond.static yJ2_length_9d52b ∈ GT := gt_in 184 (by decide +kernel) (by decide +kernel)
theorem clJ2_67 : Cl RJ2 67 yJ2_checkIndex_2214a cJ2_checkIndex_2214a 2 none 2 := ⟨gt_in 180 (by decide +kernel) (by decide +kernel), gt_in 122 (by decide +kernel) (by decide +kernel), gt_in 182 (by decide +kernel) (by decide +kernel), by decide, by decide +kernel⟩
theorem clsJ2_checkIndex_2214a : Cond.static yJ2_checkIndex_2214a ∈ GT := gt_in 181 (by decide +kernel) (by decide +kernel)
theorem clJ2_71 : Cl RJ2 71 yJ2_getChar_3b067 cJ2_getChar_3b067 2 (some .char) 2 := ⟨gt_in 187 (by decide +kernel) (by decide +kernel), gt_in 122 (by decide +kernel) (by decide +kernel), gt_in 189 (by decide +kernel) (by decide +kernel), by decide, by decide +kernel⟩
theorem clsJ2_getChar_3b067 : Cond.static yJ2_getChar_3b067 ∈ GT := gt_in 188 (by decide +kernel) (by decide +kernel)
theorem clJ2_414 : Cl RJ2 414 yJ0_checkIndex_df160 cJ0_checkIndex_df160 2 none 2 := ⟨gt_in 186 (by decide +kernel) (by decide +kernel), gt_in 119 (by decide +kernel) (by decide +kernel), gt_in 171 (by decide +kernel) (by decide +kernel), by decide, by decide +kernel⟩
theorem acX0_41 : Cond.methodLink RX0 41 arraycopyName ∈ GT := gt_in 1098 (by decide +kernel) (by decide +kernel)
theorem acX5_34 : Cond.methodLink RX5 34 arraycopyName ∈ GT := gt_in 851 (by decide +kernel) (by decide +kernel)
theorem acX6_31 : Cond.methodLink RX6 31 arraycopyName ∈ GT := gt_in 844 (by decide +kernel) (by decide +kernel)
theorem ac_n : Cond.native arraycopyName ∈ GT := gt_in 846 (by decide +kernel) (by decide +kernel)
theorem ac_s : Cond.static arraycopyName ∈ GT := gt_in 845 (by decide +kernel) (by decide +kernel)
theorem ac_i : Cond.initialized "java/lang/System" ∈ GT := gt_in 136 (by decide +kernel) (by decide +kernel)
theorem is_i : Cond.initialized RX11 ∈ GT := gt_in 117 (by decide +kernel) (by decide +kernel)
theorem is_c : Cond.code yX11_isStep cX11_isStep 1 (some .boolean) ∈ GT := gt_in 1021 (by decide +kernel) (by decide +kernel)
