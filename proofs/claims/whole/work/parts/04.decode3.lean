theorem dX11_enough_47 : decode cX11_enough 47 = .ok (.istore 4, 2) := by decide +kernel
theorem dX11_enough_49 : decode cX11_enough 49 = .ok (.iload 4, 2) := by decide +kernel
theorem dX11_enough_51 : decode cX11_enough 51 = .ok (.iload_n 1, 1) := by decide +kernel
theorem dX11_enough_52 : decode cX11_enough 52 = .ok (.if_icmp .gt 56, 3) := by decide +kernel
theorem dX11_enough_55 : decode cX11_enough 55 = .ok (.aload_n 0, 1) := by decide +kernel
theorem dX11_enough_56 : decode cX11_enough 56 = .ok (.iload 4, 2) := by decide +kernel
theorem dX11_enough_58 : decode cX11_enough 58 = .ok (.invokevirtual 329, 3) := by decide +kernel
theorem dX11_enough_61 : decode cX11_enough 61 = .ok (.pop, 1) := by decide +kernel
theorem dX11_enough_62 : decode cX11_enough 62 = .ok (.iconst 0, 1) := by decide +kernel
theorem dX11_enough_63 : decode cX11_enough 63 = .ok (.istore 5, 2) := by decide +kernel
theorem dX11_enough_65 : decode cX11_enough 65 = .ok (.iload 5, 2) := by decide +kernel
theorem dX11_enough_67 : decode cX11_enough 67 = .ok (.iload_n 2, 1) := by decide +kernel
theorem dX11_enough_68 : decode cX11_enough 68 = .ok (.if_icmp .ge 16, 3) := by decide +kernel
theorem dX11_enough_71 : decode cX11_enough 71 = .ok (.aload_n 0, 1) := by decide +kernel
theorem dX11_enough_72 : decode cX11_enough 72 = .ok (.invokevirtual 327, 3) := by decide +kernel
theorem dX11_enough_75 : decode cX11_enough 75 = .ok (.ifCond .ne 9, 3) := by decide +kernel
theorem dX11_enough_78 : decode cX11_enough 78 = .ok (.iinc 5 1, 3) := by decide +kernel
theorem dX11_enough_81 : decode cX11_enough 81 = .ok (.goto (-16), 3) := by decide +kernel
theorem dX11_enough_84 : decode cX11_enough 84 = .ok (.iload_n 3, 1) := by decide +kernel
theorem dX11_enough_85 : decode cX11_enough 85 = .ok (.iload 5, 2) := by decide +kernel
theorem dX11_enough_87 : decode cX11_enough 87 = .ok (.iload_n 2, 1) := by decide +kernel
theorem dX11_enough_88 : decode cX11_enough 88 = .ok (.if_icmp .ne 7, 3) := by decide +kernel
theorem dX11_enough_91 : decode cX11_enough 91 = .ok (.iconst 1, 1) := by decide +kernel
theorem dX11_enough_92 : decode cX11_enough 92 = .ok (.goto 4, 3) := by decide +kernel
theorem dX11_enough_95 : decode cX11_enough 95 = .ok (.iconst 0, 1) := by decide +kernel
theorem dX11_enough_96 : decode cX11_enough 96 = .ok (.iadd, 1) := by decide +kernel
theorem dX11_enough_97 : decode cX11_enough 97 = .ok (.istore_n 3, 1) := by decide +kernel
theorem dX11_enough_98 : decode cX11_enough 98 = .ok (.aload_n 0, 1) := by decide +kernel
theorem dX11_enough_99 : decode cX11_enough 99 = .ok (.invokevirtual 335, 3) := by decide +kernel
theorem dX11_enough_102 : decode cX11_enough 102 = .ok (.iinc 4 1, 3) := by decide +kernel
theorem dX11_enough_105 : decode cX11_enough 105 = .ok (.goto (-56), 3) := by decide +kernel
theorem dX11_enough_108 : decode cX11_enough 108 = .ok (.iload_n 3, 1) := by decide +kernel
theorem dX11_enough_109 : decode cX11_enough 109 = .ok (.ireturn, 1) := by decide +kernel
theorem dX11_latest_0 : decode cX11_latest 0 = .ok (.aload_n 0, 1) := by decide +kernel
theorem dX11_latest_1 : decode cX11_latest 1 = .ok (.iconst 0, 1) := by decide +kernel
theorem dX11_latest_2 : decode cX11_latest 2 = .ok (.putfield 3, 3) := by decide +kernel
theorem dX11_latest_5 : decode cX11_latest 5 = .ok (.aload_n 0, 1) := by decide +kernel
theorem dX11_latest_6 : decode cX11_latest 6 = .ok (.aload_n 0, 1) := by decide +kernel
theorem dX11_latest_7 : decode cX11_latest 7 = .ok (.iload_n 1, 1) := by decide +kernel
theorem dX11_latest_8 : decode cX11_latest 8 = .ok (.invokevirtual 293, 3) := by decide +kernel
theorem dX11_latest_11 : decode cX11_latest 11 = .ok (.ifCond .ne 10, 3) := by decide +kernel
theorem dX11_latest_14 : decode cX11_latest 14 = .ok (.iload_n 2, 1) := by decide +kernel
theorem dX11_latest_15 : decode cX11_latest 15 = .ok (.invokestatic 290, 3) := by decide +kernel
theorem dX11_latest_18 : decode cX11_latest 18 = .ok (.ifCond .eq 7, 3) := by decide +kernel
theorem dX11_latest_21 : decode cX11_latest 21 = .ok (.iconst 1, 1) := by decide +kernel
theorem dX11_latest_22 : decode cX11_latest 22 = .ok (.goto 4, 3) := by decide +kernel
theorem dX11_latest_25 : decode cX11_latest 25 = .ok (.iconst 0, 1) := by decide +kernel
theorem dX11_latest_26 : decode cX11_latest 26 = .ok (.iconst 1, 1) := by decide +kernel
theorem dX11_latest_27 : decode cX11_latest 27 = .ok (.invokevirtual 265, 3) := by decide +kernel
theorem dX11_latest_30 : decode cX11_latest 30 = .ok (.ifCond .eq 5, 3) := by decide +kernel
theorem dX11_latest_33 : decode cX11_latest 33 = .ok (.iconst 0, 1) := by decide +kernel
theorem dX11_latest_34 : decode cX11_latest 34 = .ok (.ireturn, 1) := by decide +kernel
theorem dX11_latest_35 : decode cX11_latest 35 = .ok (.aload_n 0, 1) := by decide +kernel
theorem dX11_latest_36 : decode cX11_latest 36 = .ok (.getfield 49, 3) := by decide +kernel
theorem dX11_latest_39 : decode cX11_latest 39 = .ok (.ifCond .ne 7, 3) := by decide +kernel
theorem dX11_latest_42 : decode cX11_latest 42 = .ok (.iconst (-1), 1) := by decide +kernel
theorem dX11_latest_43 : decode cX11_latest 43 = .ok (.goto 40, 3) := by decide +kernel
theorem dX11_latest_46 : decode cX11_latest 46 = .ok (.aload_n 0, 1) := by decide +kernel
theorem dX11_latest_47 : decode cX11_latest 47 = .ok (.iload_n 1, 1) := by decide +kernel
theorem dX11_latest_48 : decode cX11_latest 48 = .ok (.iconst 4, 1) := by decide +kernel
theorem dX11_latest_49 : decode cX11_latest 49 = .ok (.iload_n 2, 1) := by decide +kernel
theorem dX11_latest_50 : decode cX11_latest 50 = .ok (.iadd, 1) := by decide +kernel
theorem dX11_latest_51 : decode cX11_latest 51 = .ok (.invokevirtual 151, 3) := by decide +kernel
theorem dX11_latest_54 : decode cX11_latest 54 = .ok (.aload_n 0, 1) := by decide +kernel
theorem dX11_latest_55 : decode cX11_latest 55 = .ok (.getfield 26, 3) := by decide +kernel
theorem dX11_latest_58 : decode cX11_latest 58 = .ok (.sipush 1454, 3) := by decide +kernel
theorem dX11_latest_61 : decode cX11_latest 61 = .ok (.aload_n 0, 1) := by decide +kernel
theorem dX11_latest_62 : decode cX11_latest 62 = .ok (.getfield 49, 3) := by decide +kernel
theorem dX11_latest_65 : decode cX11_latest 65 = .ok (.iconst 1, 1) := by decide +kernel
theorem dX11_latest_66 : decode cX11_latest 66 = .ok (.isub, 1) := by decide +kernel
theorem dX11_latest_67 : decode cX11_latest 67 = .ok (.imul, 1) := by decide +kernel
theorem dX11_latest_68 : decode cX11_latest 68 = .ok (.sipush 345, 3) := by decide +kernel
theorem dX11_latest_71 : decode cX11_latest 71 = .ok (.iadd, 1) := by decide +kernel
theorem dX11_latest_72 : decode cX11_latest 72 = .ok (.bipush 34, 2) := by decide +kernel
theorem dX11_latest_74 : decode cX11_latest 74 = .ok (.iload_n 1, 1) := by decide +kernel
theorem dX11_latest_75 : decode cX11_latest 75 = .ok (.imul, 1) := by decide +kernel
theorem dX11_latest_76 : decode cX11_latest 76 = .ok (.iadd, 1) := by decide +kernel
theorem dX11_latest_77 : decode cX11_latest 77 = .ok (.iconst 4, 1) := by decide +kernel
theorem dX11_latest_78 : decode cX11_latest 78 = .ok (.iadd, 1) := by decide +kernel
theorem dX11_latest_79 : decode cX11_latest 79 = .ok (.iload_n 2, 1) := by decide +kernel
theorem dX11_latest_80 : decode cX11_latest 80 = .ok (.iadd, 1) := by decide +kernel
theorem dX11_latest_81 : decode cX11_latest 81 = .ok (.iaload, 1) := by decide +kernel
theorem dX11_latest_82 : decode cX11_latest 82 = .ok (.isub, 1) := by decide +kernel
theorem dX11_latest_83 : decode cX11_latest 83 = .ok (.ireturn, 1) := by decide +kernel
theorem dX11_count_0 : decode cX11_count 0 = .ok (.aload_n 0, 1) := by decide +kernel
theorem dX11_count_1 : decode cX11_count 1 = .ok (.iconst 0, 1) := by decide +kernel
theorem dX11_count_2 : decode cX11_count 2 = .ok (.putfield 3, 3) := by decide +kernel
theorem dX11_count_5 : decode cX11_count 5 = .ok (.iconst 0, 1) := by decide +kernel
theorem dX11_count_6 : decode cX11_count 6 = .ok (.istore_n 2, 1) := by decide +kernel
theorem dX11_count_7 : decode cX11_count 7 = .ok (.iload_n 1, 1) := by decide +kernel
theorem dX11_count_8 : decode cX11_count 8 = .ok (.tableswitch 248 0 13 #[72, 77, 82, 89, 112, 119, 124, 150, 184, 192, 200, 208, 213, 240], 72) := by decide +kernel
theorem dX11_count_80 : decode cX11_count 80 = .ok (.aload_n 0, 1) := by decide +kernel
theorem dX11_count_81 : decode cX11_count 81 = .ok (.invokevirtual 52, 3) := by decide +kernel
theorem dX11_count_84 : decode cX11_count 84 = .ok (.ireturn, 1) := by decide +kernel
theorem dX11_count_85 : decode cX11_count 85 = .ok (.aload_n 0, 1) := by decide +kernel
theorem dX11_count_86 : decode cX11_count 86 = .ok (.invokevirtual 60, 3) := by decide +kernel
theorem dX11_count_89 : decode cX11_count 89 = .ok (.ireturn, 1) := by decide +kernel
theorem dX11_count_90 : decode cX11_count 90 = .ok (.aload_n 0, 1) := by decide +kernel
theorem dX11_count_91 : decode cX11_count 91 = .ok (.getfield 13, 3) := by decide +kernel
theorem dX11_count_94 : decode cX11_count 94 = .ok (.iconst 2, 1) := by decide +kernel
theorem dX11_count_95 : decode cX11_count 95 = .ok (.iaload, 1) := by decide +kernel
theorem dX11_count_96 : decode cX11_count 96 = .ok (.ireturn, 1) := by decide +kernel
theorem dX11_count_97 : decode cX11_count 97 = .ok (.aload_n 0, 1) := by decide +kernel
theorem dX11_count_98 : decode cX11_count 98 = .ok (.getfield 13, 3) := by decide +kernel
theorem dX11_count_101 : decode cX11_count 101 = .ok (.iconst 3, 1) := by decide +kernel
theorem dX11_count_102 : decode cX11_count 102 = .ok (.iaload, 1) := by decide +kernel
theorem dX11_count_103 : decode cX11_count 103 = .ok (.iconst 1, 1) := by decide +kernel
theorem dX11_count_104 : decode cX11_count 104 = .ok (.if_icmp .ne 14, 3) := by decide +kernel
theorem dX11_count_107 : decode cX11_count 107 = .ok (.aload_n 0, 1) := by decide +kernel
theorem dX11_count_108 : decode cX11_count 108 = .ok (.getfield 13, 3) := by decide +kernel
theorem dX11_count_111 : decode cX11_count 111 = .ok (.sipush 617, 3) := by decide +kernel
theorem dX11_count_114 : decode cX11_count 114 = .ok (.iaload, 1) := by decide +kernel
theorem dX11_count_115 : decode cX11_count 115 = .ok (.goto 4, 3) := by decide +kernel
theorem dX11_count_118 : decode cX11_count 118 = .ok (.iconst (-1), 1) := by decide +kernel
theorem dX11_count_119 : decode cX11_count 119 = .ok (.ireturn, 1) := by decide +kernel
theorem dX11_count_120 : decode cX11_count 120 = .ok (.aload_n 0, 1) := by decide +kernel
theorem dX11_count_121 : decode cX11_count 121 = .ok (.getfield 13, 3) := by decide +kernel
theorem dX11_count_124 : decode cX11_count 124 = .ok (.iconst 4, 1) := by decide +kernel
theorem dX11_count_125 : decode cX11_count 125 = .ok (.iaload, 1) := by decide +kernel
theorem dX11_count_126 : decode cX11_count 126 = .ok (.ireturn, 1) := by decide +kernel
theorem dX11_count_127 : decode cX11_count 127 = .ok (.aload_n 0, 1) := by decide +kernel
theorem dX11_count_128 : decode cX11_count 128 = .ok (.invokevirtual 268, 3) := by decide +kernel
theorem dX11_count_131 : decode cX11_count 131 = .ok (.ireturn, 1) := by decide +kernel
theorem dX11_count_132 : decode cX11_count 132 = .ok (.iconst 0, 1) := by decide +kernel
theorem dX11_count_133 : decode cX11_count 133 = .ok (.istore_n 3, 1) := by decide +kernel
theorem dX11_count_134 : decode cX11_count 134 = .ok (.iload_n 3, 1) := by decide +kernel
theorem dX11_count_135 : decode cX11_count 135 = .ok (.aload_n 0, 1) := by decide +kernel
theorem dX11_count_136 : decode cX11_count 136 = .ok (.invokevirtual 52, 3) := by decide +kernel
theorem dX11_count_139 : decode cX11_count 139 = .ok (.if_icmp .ge 17, 3) := by decide +kernel
theorem dX11_count_142 : decode cX11_count 142 = .ok (.iload_n 2, 1) := by decide +kernel
theorem dX11_count_143 : decode cX11_count 143 = .ok (.aload_n 0, 1) := by decide +kernel
theorem dX11_count_144 : decode cX11_count 144 = .ok (.iload_n 3, 1) := by decide +kernel
theorem dX11_count_145 : decode cX11_count 145 = .ok (.invokevirtual 75, 3) := by decide +kernel
theorem dX11_count_148 : decode cX11_count 148 = .ok (.iadd, 1) := by decide +kernel
theorem dX11_count_149 : decode cX11_count 149 = .ok (.istore_n 2, 1) := by decide +kernel
theorem dX11_count_150 : decode cX11_count 150 = .ok (.iinc 3 1, 3) := by decide +kernel
theorem dX11_count_153 : decode cX11_count 153 = .ok (.goto (-19), 3) := by decide +kernel
theorem dX11_count_156 : decode cX11_count 156 = .ok (.iload_n 2, 1) := by decide +kernel
theorem dX11_count_157 : decode cX11_count 157 = .ok (.ireturn, 1) := by decide +kernel
theorem dX11_count_158 : decode cX11_count 158 = .ok (.iconst 0, 1) := by decide +kernel
theorem dX11_count_159 : decode cX11_count 159 = .ok (.istore_n 3, 1) := by decide +kernel
theorem dX11_count_160 : decode cX11_count 160 = .ok (.iload_n 3, 1) := by decide +kernel
theorem dX11_count_161 : decode cX11_count 161 = .ok (.aload_n 0, 1) := by decide +kernel
theorem dX11_count_162 : decode cX11_count 162 = .ok (.invokevirtual 60, 3) := by decide +kernel
theorem dX11_count_165 : decode cX11_count 165 = .ok (.if_icmp .ge 17, 3) := by decide +kernel
theorem dX11_count_168 : decode cX11_count 168 = .ok (.iload_n 2, 1) := by decide +kernel
theorem dX11_count_169 : decode cX11_count 169 = .ok (.aload_n 0, 1) := by decide +kernel
theorem dX11_count_170 : decode cX11_count 170 = .ok (.iload_n 3, 1) := by decide +kernel
theorem dX11_count_171 : decode cX11_count 171 = .ok (.invokevirtual 296, 3) := by decide +kernel
theorem dX11_count_174 : decode cX11_count 174 = .ok (.iadd, 1) := by decide +kernel
theorem dX11_count_175 : decode cX11_count 175 = .ok (.istore_n 2, 1) := by decide +kernel
theorem dX11_count_176 : decode cX11_count 176 = .ok (.iinc 3 1, 3) := by decide +kernel
theorem dX11_count_179 : decode cX11_count 179 = .ok (.goto (-19), 3) := by decide +kernel
theorem dX11_count_182 : decode cX11_count 182 = .ok (.iload_n 2, 1) := by decide +kernel
theorem dX11_count_183 : decode cX11_count 183 = .ok (.aload_n 0, 1) := by decide +kernel
theorem dX11_count_184 : decode cX11_count 184 = .ok (.getfield 13, 3) := by decide +kernel
theorem dX11_count_187 : decode cX11_count 187 = .ok (.bipush 9, 2) := by decide +kernel
theorem dX11_count_189 : decode cX11_count 189 = .ok (.iaload, 1) := by decide +kernel
theorem dX11_count_190 : decode cX11_count 190 = .ok (.iadd, 1) := by decide +kernel
theorem dX11_count_191 : decode cX11_count 191 = .ok (.ireturn, 1) := by decide +kernel
theorem dX11_count_192 : decode cX11_count 192 = .ok (.aload_n 0, 1) := by decide +kernel
theorem dX11_count_193 : decode cX11_count 193 = .ok (.getfield 13, 3) := by decide +kernel
theorem dX11_count_196 : decode cX11_count 196 = .ok (.bipush 6, 2) := by decide +kernel
theorem dX11_count_198 : decode cX11_count 198 = .ok (.iaload, 1) := by decide +kernel
theorem dX11_count_199 : decode cX11_count 199 = .ok (.ireturn, 1) := by decide +kernel
theorem dX11_count_200 : decode cX11_count 200 = .ok (.aload_n 0, 1) := by decide +kernel
theorem dX11_count_201 : decode cX11_count 201 = .ok (.getfield 13, 3) := by decide +kernel
theorem dX11_count_204 : decode cX11_count 204 = .ok (.bipush 7, 2) := by decide +kernel
theorem dX11_count_206 : decode cX11_count 206 = .ok (.iaload, 1) := by decide +kernel
theorem dX11_count_207 : decode cX11_count 207 = .ok (.ireturn, 1) := by decide +kernel
theorem dX11_count_208 : decode cX11_count 208 = .ok (.aload_n 0, 1) := by decide +kernel
theorem dX11_count_209 : decode cX11_count 209 = .ok (.getfield 13, 3) := by decide +kernel
theorem dX11_count_212 : decode cX11_count 212 = .ok (.bipush 8, 2) := by decide +kernel
theorem dX11_count_214 : decode cX11_count 214 = .ok (.iaload, 1) := by decide +kernel
theorem dX11_count_215 : decode cX11_count 215 = .ok (.ireturn, 1) := by decide +kernel
theorem dX11_count_216 : decode cX11_count 216 = .ok (.aload_n 0, 1) := by decide +kernel
theorem dX11_count_217 : decode cX11_count 217 = .ok (.getfield 49, 3) := by decide +kernel
theorem dX11_count_220 : decode cX11_count 220 = .ok (.ireturn, 1) := by decide +kernel
theorem dX11_count_221 : decode cX11_count 221 = .ok (.iconst 0, 1) := by decide +kernel
theorem dX11_count_222 : decode cX11_count 222 = .ok (.istore_n 3, 1) := by decide +kernel
theorem dX11_count_223 : decode cX11_count 223 = .ok (.iload_n 3, 1) := by decide +kernel
theorem dX11_count_224 : decode cX11_count 224 = .ok (.aload_n 0, 1) := by decide +kernel
theorem dX11_count_225 : decode cX11_count 225 = .ok (.invokevirtual 60, 3) := by decide +kernel
theorem dX11_count_228 : decode cX11_count 228 = .ok (.if_icmp .ge 18, 3) := by decide +kernel
theorem dX11_count_231 : decode cX11_count 231 = .ok (.iload_n 2, 1) := by decide +kernel
theorem dX11_count_232 : decode cX11_count 232 = .ok (.aload_n 0, 1) := by decide +kernel
theorem dX11_count_233 : decode cX11_count 233 = .ok (.iload_n 3, 1) := by decide +kernel
theorem dX11_count_234 : decode cX11_count 234 = .ok (.iconst 3, 1) := by decide +kernel
theorem dX11_count_235 : decode cX11_count 235 = .ok (.invokevirtual 151, 3) := by decide +kernel
theorem dX11_count_238 : decode cX11_count 238 = .ok (.iadd, 1) := by decide +kernel
theorem dX11_count_239 : decode cX11_count 239 = .ok (.istore_n 2, 1) := by decide +kernel
theorem dX11_count_240 : decode cX11_count 240 = .ok (.iinc 3 1, 3) := by decide +kernel
theorem dX11_count_243 : decode cX11_count 243 = .ok (.goto (-20), 3) := by decide +kernel
theorem dX11_count_246 : decode cX11_count 246 = .ok (.iload_n 2, 1) := by decide +kernel
theorem dX11_count_247 : decode cX11_count 247 = .ok (.ireturn, 1) := by decide +kernel
theorem dX11_count_248 : decode cX11_count 248 = .ok (.aload_n 0, 1) := by decide +kernel
theorem dX11_count_249 : decode cX11_count 249 = .ok (.getfield 13, 3) := by decide +kernel
theorem dX11_count_252 : decode cX11_count 252 = .ok (.bipush 10, 2) := by decide +kernel
theorem dX11_count_254 : decode cX11_count 254 = .ok (.iaload, 1) := by decide +kernel
theorem dX11_count_255 : decode cX11_count 255 = .ok (.ireturn, 1) := by decide +kernel
theorem dX11_count_256 : decode cX11_count 256 = .ok (.iconst (-1), 1) := by decide +kernel
theorem dX11_count_257 : decode cX11_count 257 = .ok (.ireturn, 1) := by decide +kernel
theorem dJ6_bitCount_0f7a4_0 : decode cJ6_bitCount_0f7a4 0 = .ok (.iload_n 0, 1) := by decide +kernel
theorem dJ6_bitCount_0f7a4_1 : decode cJ6_bitCount_0f7a4 1 = .ok (.iload_n 0, 1) := by decide +kernel
theorem dJ6_bitCount_0f7a4_2 : decode cJ6_bitCount_0f7a4 2 = .ok (.iconst 1, 1) := by decide +kernel
theorem dJ6_bitCount_0f7a4_3 : decode cJ6_bitCount_0f7a4 3 = .ok (.iushr, 1) := by decide +kernel
theorem dJ6_bitCount_0f7a4_4 : decode cJ6_bitCount_0f7a4 4 = .ok (.ldc_w 265, 3) := by decide +kernel
theorem dJ6_bitCount_0f7a4_7 : decode cJ6_bitCount_0f7a4 7 = .ok (.iand, 1) := by decide +kernel
theorem dJ6_bitCount_0f7a4_8 : decode cJ6_bitCount_0f7a4 8 = .ok (.isub, 1) := by decide +kernel
theorem dJ6_bitCount_0f7a4_9 : decode cJ6_bitCount_0f7a4 9 = .ok (.istore_n 0, 1) := by decide +kernel
theorem dJ6_bitCount_0f7a4_10 : decode cJ6_bitCount_0f7a4 10 = .ok (.iload_n 0, 1) := by decide +kernel
theorem dJ6_bitCount_0f7a4_11 : decode cJ6_bitCount_0f7a4 11 = .ok (.ldc_w 266, 3) := by decide +kernel
theorem dJ6_bitCount_0f7a4_14 : decode cJ6_bitCount_0f7a4 14 = .ok (.iand, 1) := by decide +kernel
theorem dJ6_bitCount_0f7a4_15 : decode cJ6_bitCount_0f7a4 15 = .ok (.iload_n 0, 1) := by decide +kernel
theorem dJ6_bitCount_0f7a4_16 : decode cJ6_bitCount_0f7a4 16 = .ok (.iconst 2, 1) := by decide +kernel
theorem dJ6_bitCount_0f7a4_17 : decode cJ6_bitCount_0f7a4 17 = .ok (.iushr, 1) := by decide +kernel
theorem dJ6_bitCount_0f7a4_18 : decode cJ6_bitCount_0f7a4 18 = .ok (.ldc_w 266, 3) := by decide +kernel
theorem dJ6_bitCount_0f7a4_21 : decode cJ6_bitCount_0f7a4 21 = .ok (.iand, 1) := by decide +kernel
theorem dJ6_bitCount_0f7a4_22 : decode cJ6_bitCount_0f7a4 22 = .ok (.iadd, 1) := by decide +kernel
theorem dJ6_bitCount_0f7a4_23 : decode cJ6_bitCount_0f7a4 23 = .ok (.istore_n 0, 1) := by decide +kernel
theorem dJ6_bitCount_0f7a4_24 : decode cJ6_bitCount_0f7a4 24 = .ok (.iload_n 0, 1) := by decide +kernel
theorem dJ6_bitCount_0f7a4_25 : decode cJ6_bitCount_0f7a4 25 = .ok (.iload_n 0, 1) := by decide +kernel
theorem dJ6_bitCount_0f7a4_26 : decode cJ6_bitCount_0f7a4 26 = .ok (.iconst 4, 1) := by decide +kernel
theorem dJ6_bitCount_0f7a4_27 : decode cJ6_bitCount_0f7a4 27 = .ok (.iushr, 1) := by decide +kernel
theorem dJ6_bitCount_0f7a4_28 : decode cJ6_bitCount_0f7a4 28 = .ok (.iadd, 1) := by decide +kernel
theorem dJ6_bitCount_0f7a4_29 : decode cJ6_bitCount_0f7a4 29 = .ok (.ldc_w 267, 3) := by decide +kernel
theorem dJ6_bitCount_0f7a4_32 : decode cJ6_bitCount_0f7a4 32 = .ok (.iand, 1) := by decide +kernel
theorem dJ6_bitCount_0f7a4_33 : decode cJ6_bitCount_0f7a4 33 = .ok (.istore_n 0, 1) := by decide +kernel
theorem dJ6_bitCount_0f7a4_34 : decode cJ6_bitCount_0f7a4 34 = .ok (.iload_n 0, 1) := by decide +kernel
theorem dJ6_bitCount_0f7a4_35 : decode cJ6_bitCount_0f7a4 35 = .ok (.iload_n 0, 1) := by decide +kernel
theorem dJ6_bitCount_0f7a4_36 : decode cJ6_bitCount_0f7a4 36 = .ok (.bipush 8, 2) := by decide +kernel
theorem dJ6_bitCount_0f7a4_38 : decode cJ6_bitCount_0f7a4 38 = .ok (.iushr, 1) := by decide +kernel
theorem dJ6_bitCount_0f7a4_39 : decode cJ6_bitCount_0f7a4 39 = .ok (.iadd, 1) := by decide +kernel
theorem dJ6_bitCount_0f7a4_40 : decode cJ6_bitCount_0f7a4 40 = .ok (.istore_n 0, 1) := by decide +kernel
theorem dJ6_bitCount_0f7a4_41 : decode cJ6_bitCount_0f7a4 41 = .ok (.iload_n 0, 1) := by decide +kernel
theorem dJ6_bitCount_0f7a4_42 : decode cJ6_bitCount_0f7a4 42 = .ok (.iload_n 0, 1) := by decide +kernel
theorem dJ6_bitCount_0f7a4_43 : decode cJ6_bitCount_0f7a4 43 = .ok (.bipush 16, 2) := by decide +kernel
theorem dJ6_bitCount_0f7a4_45 : decode cJ6_bitCount_0f7a4 45 = .ok (.iushr, 1) := by decide +kernel
theorem dJ6_bitCount_0f7a4_46 : decode cJ6_bitCount_0f7a4 46 = .ok (.iadd, 1) := by decide +kernel
theorem dJ6_bitCount_0f7a4_47 : decode cJ6_bitCount_0f7a4 47 = .ok (.istore_n 0, 1) := by decide +kernel
theorem dJ6_bitCount_0f7a4_48 : decode cJ6_bitCount_0f7a4 48 = .ok (.iload_n 0, 1) := by decide +kernel
theorem dJ6_bitCount_0f7a4_49 : decode cJ6_bitCount_0f7a4 49 = .ok (.bipush 63, 2) := by decide +kernel
theorem dJ6_bitCount_0f7a4_51 : decode cJ6_bitCount_0f7a4 51 = .ok (.iand, 1) := by decide +kernel
theorem dJ6_bitCount_0f7a4_52 : decode cJ6_bitCount_0f7a4 52 = .ok (.ireturn, 1) := by decide +kernel
theorem dJ9_floorMod_7cf53_0 : decode cJ9_floorMod_7cf53 0 = .ok (.iload_n 0, 1) := by decide +kernel
theorem dJ9_floorMod_7cf53_1 : decode cJ9_floorMod_7cf53 1 = .ok (.iload_n 1, 1) := by decide +kernel
theorem dJ9_floorMod_7cf53_2 : decode cJ9_floorMod_7cf53 2 = .ok (.irem, 1) := by decide +kernel
theorem dJ9_floorMod_7cf53_3 : decode cJ9_floorMod_7cf53 3 = .ok (.istore_n 2, 1) := by decide +kernel
theorem dJ9_floorMod_7cf53_4 : decode cJ9_floorMod_7cf53 4 = .ok (.iload_n 0, 1) := by decide +kernel
theorem dJ9_floorMod_7cf53_5 : decode cJ9_floorMod_7cf53 5 = .ok (.iload_n 1, 1) := by decide +kernel
theorem dJ9_floorMod_7cf53_6 : decode cJ9_floorMod_7cf53 6 = .ok (.ixor, 1) := by decide +kernel
theorem dJ9_floorMod_7cf53_7 : decode cJ9_floorMod_7cf53 7 = .ok (.ifCond .ge 11, 3) := by decide +kernel
theorem dJ9_floorMod_7cf53_10 : decode cJ9_floorMod_7cf53 10 = .ok (.iload_n 2, 1) := by decide +kernel
theorem dJ9_floorMod_7cf53_11 : decode cJ9_floorMod_7cf53 11 = .ok (.ifCond .eq 7, 3) := by decide +kernel
theorem dJ9_floorMod_7cf53_14 : decode cJ9_floorMod_7cf53 14 = .ok (.iload_n 2, 1) := by decide +kernel
theorem dJ9_floorMod_7cf53_15 : decode cJ9_floorMod_7cf53 15 = .ok (.iload_n 1, 1) := by decide +kernel
theorem dJ9_floorMod_7cf53_16 : decode cJ9_floorMod_7cf53 16 = .ok (.iadd, 1) := by decide +kernel
theorem dJ9_floorMod_7cf53_17 : decode cJ9_floorMod_7cf53 17 = .ok (.ireturn, 1) := by decide +kernel
theorem dJ9_floorMod_7cf53_18 : decode cJ9_floorMod_7cf53 18 = .ok (.iload_n 2, 1) := by decide +kernel
theorem dJ9_floorMod_7cf53_19 : decode cJ9_floorMod_7cf53 19 = .ok (.ireturn, 1) := by decide +kernel
theorem dJ9_max_7cf53_0 : decode cJ9_max_7cf53 0 = .ok (.iload_n 0, 1) := by decide +kernel
theorem dJ9_max_7cf53_1 : decode cJ9_max_7cf53 1 = .ok (.iload_n 1, 1) := by decide +kernel
theorem dJ9_max_7cf53_2 : decode cJ9_max_7cf53 2 = .ok (.if_icmp .lt 7, 3) := by decide +kernel
theorem dJ9_max_7cf53_5 : decode cJ9_max_7cf53 5 = .ok (.iload_n 0, 1) := by decide +kernel
theorem dJ9_max_7cf53_6 : decode cJ9_max_7cf53 6 = .ok (.goto 4, 3) := by decide +kernel
theorem dJ9_max_7cf53_9 : decode cJ9_max_7cf53 9 = .ok (.iload_n 1, 1) := by decide +kernel
theorem dJ9_max_7cf53_10 : decode cJ9_max_7cf53 10 = .ok (.ireturn, 1) := by decide +kernel
theorem dJ9_min_7cf53_0 : decode cJ9_min_7cf53 0 = .ok (.iload_n 0, 1) := by decide +kernel
theorem dJ9_min_7cf53_1 : decode cJ9_min_7cf53 1 = .ok (.iload_n 1, 1) := by decide +kernel
theorem dJ9_min_7cf53_2 : decode cJ9_min_7cf53 2 = .ok (.if_icmp .gt 7, 3) := by decide +kernel
theorem dJ9_min_7cf53_5 : decode cJ9_min_7cf53 5 = .ok (.iload_n 0, 1) := by decide +kernel
theorem dJ9_min_7cf53_6 : decode cJ9_min_7cf53 6 = .ok (.goto 4, 3) := by decide +kernel
theorem dJ9_min_7cf53_9 : decode cJ9_min_7cf53 9 = .ok (.iload_n 1, 1) := by decide +kernel
theorem dJ9_min_7cf53_10 : decode cJ9_min_7cf53 10 = .ok (.ireturn, 1) := by decide +kernel
theorem dJ9_min_f86c9_0 : decode cJ9_min_f86c9 0 = .ok (.lload_n 0, 1) := by decide +kernel
theorem dJ9_min_f86c9_1 : decode cJ9_min_f86c9 1 = .ok (.lload_n 2, 1) := by decide +kernel
theorem dJ9_min_f86c9_2 : decode cJ9_min_f86c9 2 = .ok (.lcmp, 1) := by decide +kernel
theorem dJ9_min_f86c9_3 : decode cJ9_min_f86c9 3 = .ok (.ifCond .gt 7, 3) := by decide +kernel
theorem dJ9_min_f86c9_6 : decode cJ9_min_f86c9 6 = .ok (.lload_n 0, 1) := by decide +kernel
theorem dJ9_min_f86c9_7 : decode cJ9_min_f86c9 7 = .ok (.goto 4, 3) := by decide +kernel
theorem dJ9_min_f86c9_10 : decode cJ9_min_f86c9 10 = .ok (.lload_n 2, 1) := by decide +kernel
theorem dJ9_min_f86c9_11 : decode cJ9_min_f86c9 11 = .ok (.lreturn, 1) := by decide +kernel
theorem dJ0_length_8abf5_0 : decode cJ0_length_8abf5 0 = .ok (.aload_n 0, 1) := by decide +kernel
theorem dJ0_length_8abf5_1 : decode cJ0_length_8abf5 1 = .ok (.getfield 9, 3) := by decide +kernel
theorem dJ0_length_8abf5_4 : decode cJ0_length_8abf5 4 = .ok (.arraylength, 1) := by decide +kernel
theorem dJ0_length_8abf5_5 : decode cJ0_length_8abf5 5 = .ok (.aload_n 0, 1) := by decide +kernel
theorem dJ0_length_8abf5_6 : decode cJ0_length_8abf5 6 = .ok (.invokevirtual 335, 3) := by decide +kernel
theorem dJ0_length_8abf5_9 : decode cJ0_length_8abf5 9 = .ok (.ishr, 1) := by decide +kernel
theorem dJ0_length_8abf5_10 : decode cJ0_length_8abf5 10 = .ok (.ireturn, 1) := by decide +kernel
theorem dJ0_charAt_5068e_0 : decode cJ0_charAt_5068e 0 = .ok (.aload_n 0, 1) := by decide +kernel
theorem dJ0_charAt_5068e_1 : decode cJ0_charAt_5068e 1 = .ok (.invokevirtual 492, 3) := by decide +kernel
theorem dJ0_charAt_5068e_4 : decode cJ0_charAt_5068e 4 = .ok (.ifCond .eq 12, 3) := by decide +kernel
theorem dJ0_charAt_5068e_7 : decode cJ0_charAt_5068e 7 = .ok (.aload_n 0, 1) := by decide +kernel
theorem dJ0_charAt_5068e_8 : decode cJ0_charAt_5068e 8 = .ok (.getfield 9, 3) := by decide +kernel
theorem dJ0_charAt_5068e_11 : decode cJ0_charAt_5068e 11 = .ok (.iload_n 1, 1) := by decide +kernel
theorem dJ0_charAt_5068e_12 : decode cJ0_charAt_5068e 12 = .ok (.invokestatic 495, 3) := by decide +kernel
theorem dJ0_charAt_5068e_15 : decode cJ0_charAt_5068e 15 = .ok (.ireturn, 1) := by decide +kernel
theorem dJ0_charAt_5068e_16 : decode cJ0_charAt_5068e 16 = .ok (.aload_n 0, 1) := by decide +kernel
theorem dJ0_charAt_5068e_17 : decode cJ0_charAt_5068e 17 = .ok (.getfield 9, 3) := by decide +kernel
theorem dJ0_charAt_5068e_20 : decode cJ0_charAt_5068e 20 = .ok (.iload_n 1, 1) := by decide +kernel
theorem dJ0_charAt_5068e_21 : decode cJ0_charAt_5068e 21 = .ok (.invokestatic 498, 3) := by decide +kernel
theorem dJ0_charAt_5068e_24 : decode cJ0_charAt_5068e 24 = .ok (.ireturn, 1) := by decide +kernel
theorem dJ0_coder_7d493_0 : decode cJ0_coder_7d493 0 = .ok (.getstatic 38, 3) := by decide +kernel
theorem dJ0_coder_7d493_3 : decode cJ0_coder_7d493 3 = .ok (.ifCond .eq 10, 3) := by decide +kernel
theorem dJ0_coder_7d493_6 : decode cJ0_coder_7d493 6 = .ok (.aload_n 0, 1) := by decide +kernel
theorem dJ0_coder_7d493_7 : decode cJ0_coder_7d493 7 = .ok (.getfield 15, 3) := by decide +kernel
theorem dJ0_coder_7d493_10 : decode cJ0_coder_7d493 10 = .ok (.goto 4, 3) := by decide +kernel
theorem dJ0_coder_7d493_13 : decode cJ0_coder_7d493 13 = .ok (.iconst 1, 1) := by decide +kernel
theorem dJ0_coder_7d493_14 : decode cJ0_coder_7d493 14 = .ok (.ireturn, 1) := by decide +kernel
theorem dJ0_isLatin1_aae02_0 : decode cJ0_isLatin1_aae02 0 = .ok (.getstatic 38, 3) := by decide +kernel
theorem dJ0_isLatin1_aae02_3 : decode cJ0_isLatin1_aae02 3 = .ok (.ifCond .eq 14, 3) := by decide +kernel
theorem dJ0_isLatin1_aae02_6 : decode cJ0_isLatin1_aae02 6 = .ok (.aload_n 0, 1) := by decide +kernel
theorem dJ0_isLatin1_aae02_7 : decode cJ0_isLatin1_aae02 7 = .ok (.getfield 15, 3) := by decide +kernel
theorem dJ0_isLatin1_aae02_10 : decode cJ0_isLatin1_aae02 10 = .ok (.ifCond .ne 7, 3) := by decide +kernel
theorem dJ0_isLatin1_aae02_13 : decode cJ0_isLatin1_aae02 13 = .ok (.iconst 1, 1) := by decide +kernel
theorem dJ0_isLatin1_aae02_14 : decode cJ0_isLatin1_aae02 14 = .ok (.goto 4, 3) := by decide +kernel
theorem dJ0_isLatin1_aae02_17 : decode cJ0_isLatin1_aae02 17 = .ok (.iconst 0, 1) := by decide +kernel
theorem dJ0_isLatin1_aae02_18 : decode cJ0_isLatin1_aae02 18 = .ok (.ireturn, 1) := by decide +kernel
theorem dJ0_checkIndex_df160_0 : decode cJ0_checkIndex_df160 0 = .ok (.iload_n 0, 1) := by decide +kernel
theorem dJ0_checkIndex_df160_1 : decode cJ0_checkIndex_df160 1 = .ok (.iload_n 1, 1) := by decide +kernel
theorem dJ0_checkIndex_df160_2 : decode cJ0_checkIndex_df160 2 = .ok (.getstatic 1053, 3) := by decide +kernel
theorem dJ0_checkIndex_df160_5 : decode cJ0_checkIndex_df160 5 = .ok (.invokestatic 1059, 3) := by decide +kernel
theorem dJ0_checkIndex_df160_8 : decode cJ0_checkIndex_df160 8 = .ok (.pop, 1) := by decide +kernel
theorem dJ0_checkIndex_df160_9 : decode cJ0_checkIndex_df160 9 = .ok (.return_, 1) := by decide +kernel
theorem dJ1_charAt_3b067_0 : decode cJ1_charAt_3b067 0 = .ok (.iload_n 1, 1) := by decide +kernel
theorem dJ1_charAt_3b067_1 : decode cJ1_charAt_3b067 1 = .ok (.aload_n 0, 1) := by decide +kernel
theorem dJ1_charAt_3b067_2 : decode cJ1_charAt_3b067 2 = .ok (.arraylength, 1) := by decide +kernel
theorem dJ1_charAt_3b067_3 : decode cJ1_charAt_3b067 3 = .ok (.invokestatic 9, 3) := by decide +kernel
theorem dJ1_charAt_3b067_6 : decode cJ1_charAt_3b067 6 = .ok (.aload_n 0, 1) := by decide +kernel
theorem dJ1_charAt_3b067_7 : decode cJ1_charAt_3b067 7 = .ok (.iload_n 1, 1) := by decide +kernel
theorem dJ1_charAt_3b067_8 : decode cJ1_charAt_3b067 8 = .ok (.baload, 1) := by decide +kernel
theorem dJ1_charAt_3b067_9 : decode cJ1_charAt_3b067 9 = .ok (.sipush 255, 3) := by decide +kernel
theorem dJ1_charAt_3b067_12 : decode cJ1_charAt_3b067 12 = .ok (.iand, 1) := by decide +kernel
theorem dJ1_charAt_3b067_13 : decode cJ1_charAt_3b067 13 = .ok (.i2c, 1) := by decide +kernel
theorem dJ1_charAt_3b067_14 : decode cJ1_charAt_3b067 14 = .ok (.ireturn, 1) := by decide +kernel
theorem dJ2_getChar_3b067_0 : decode cJ2_getChar_3b067 0 = .ok (.getstatic 44, 3) := by decide +kernel
theorem dJ2_getChar_3b067_3 : decode cJ2_getChar_3b067 3 = .ok (.ifCond .ne 25, 3) := by decide +kernel
theorem dJ2_getChar_3b067_6 : decode cJ2_getChar_3b067 6 = .ok (.iload_n 1, 1) := by decide +kernel
theorem dJ2_getChar_3b067_7 : decode cJ2_getChar_3b067 7 = .ok (.ifCond .lt 11, 3) := by decide +kernel
theorem dJ2_getChar_3b067_10 : decode cJ2_getChar_3b067 10 = .ok (.iload_n 1, 1) := by decide +kernel
theorem dJ2_getChar_3b067_11 : decode cJ2_getChar_3b067 11 = .ok (.aload_n 0, 1) := by decide +kernel
theorem dJ2_getChar_3b067_12 : decode cJ2_getChar_3b067 12 = .ok (.invokestatic 48, 3) := by decide +kernel
theorem dJ2_getChar_3b067_15 : decode cJ2_getChar_3b067 15 = .ok (.if_icmp .lt 13, 3) := by decide +kernel
theorem dJ2_getChar_3b067_18 : decode cJ2_getChar_3b067 18 = .ok (.new 52, 3) := by decide +kernel
theorem dJ2_getChar_3b067_21 : decode cJ2_getChar_3b067 21 = .ok (.dup, 1) := by decide +kernel
theorem dJ2_getChar_3b067_22 : decode cJ2_getChar_3b067 22 = .ok (.ldc 54, 2) := by decide +kernel
theorem dJ2_getChar_3b067_24 : decode cJ2_getChar_3b067 24 = .ok (.invokespecial 56, 3) := by decide +kernel
theorem dJ2_getChar_3b067_27 : decode cJ2_getChar_3b067 27 = .ok (.athrow, 1) := by decide +kernel
theorem dJ2_getChar_3b067_28 : decode cJ2_getChar_3b067 28 = .ok (.iload_n 1, 1) := by decide +kernel
theorem dJ2_getChar_3b067_29 : decode cJ2_getChar_3b067 29 = .ok (.iconst 1, 1) := by decide +kernel
theorem dJ2_getChar_3b067_30 : decode cJ2_getChar_3b067 30 = .ok (.ishl, 1) := by decide +kernel
theorem dJ2_getChar_3b067_31 : decode cJ2_getChar_3b067 31 = .ok (.istore_n 1, 1) := by decide +kernel
theorem dJ2_getChar_3b067_32 : decode cJ2_getChar_3b067 32 = .ok (.aload_n 0, 1) := by decide +kernel
theorem dJ2_getChar_3b067_33 : decode cJ2_getChar_3b067 33 = .ok (.iload_n 1, 1) := by decide +kernel
theorem dJ2_getChar_3b067_34 : decode cJ2_getChar_3b067 34 = .ok (.iinc 1 1, 3) := by decide +kernel
theorem dJ2_getChar_3b067_37 : decode cJ2_getChar_3b067 37 = .ok (.baload, 1) := by decide +kernel
theorem dJ2_getChar_3b067_38 : decode cJ2_getChar_3b067 38 = .ok (.sipush 255, 3) := by decide +kernel
theorem dJ2_getChar_3b067_41 : decode cJ2_getChar_3b067 41 = .ok (.iand, 1) := by decide +kernel
theorem dJ2_getChar_3b067_42 : decode cJ2_getChar_3b067 42 = .ok (.getstatic 59, 3) := by decide +kernel
theorem dJ2_getChar_3b067_45 : decode cJ2_getChar_3b067 45 = .ok (.ishl, 1) := by decide +kernel
theorem dJ2_getChar_3b067_46 : decode cJ2_getChar_3b067 46 = .ok (.aload_n 0, 1) := by decide +kernel
theorem dJ2_getChar_3b067_47 : decode cJ2_getChar_3b067 47 = .ok (.iload_n 1, 1) := by decide +kernel
theorem dJ2_getChar_3b067_48 : decode cJ2_getChar_3b067 48 = .ok (.baload, 1) := by decide +kernel
theorem dJ2_getChar_3b067_49 : decode cJ2_getChar_3b067 49 = .ok (.sipush 255, 3) := by decide +kernel
theorem dJ2_getChar_3b067_52 : decode cJ2_getChar_3b067 52 = .ok (.iand, 1) := by decide +kernel
theorem dJ2_getChar_3b067_53 : decode cJ2_getChar_3b067 53 = .ok (.getstatic 63, 3) := by decide +kernel
theorem dJ2_getChar_3b067_56 : decode cJ2_getChar_3b067 56 = .ok (.ishl, 1) := by decide +kernel
theorem dJ2_getChar_3b067_57 : decode cJ2_getChar_3b067 57 = .ok (.ior, 1) := by decide +kernel
theorem dJ2_getChar_3b067_58 : decode cJ2_getChar_3b067 58 = .ok (.i2c, 1) := by decide +kernel
theorem dJ2_getChar_3b067_59 : decode cJ2_getChar_3b067 59 = .ok (.ireturn, 1) := by decide +kernel
theorem dJ2_length_9d52b_0 : decode cJ2_length_9d52b 0 = .ok (.aload_n 0, 1) := by decide +kernel
theorem dJ2_length_9d52b_1 : decode cJ2_length_9d52b 1 = .ok (.arraylength, 1) := by decide +kernel
theorem dJ2_length_9d52b_2 : decode cJ2_length_9d52b 2 = .ok (.iconst 1, 1) := by decide +kernel
theorem dJ2_length_9d52b_3 : decode cJ2_length_9d52b 3 = .ok (.ishr, 1) := by decide +kernel
theorem dJ2_length_9d52b_4 : decode cJ2_length_9d52b 4 = .ok (.ireturn, 1) := by decide +kernel
theorem dJ2_charAt_3b067_0 : decode cJ2_charAt_3b067 0 = .ok (.iload_n 1, 1) := by decide +kernel
theorem dJ2_charAt_3b067_1 : decode cJ2_charAt_3b067 1 = .ok (.aload_n 0, 1) := by decide +kernel
theorem dJ2_charAt_3b067_2 : decode cJ2_charAt_3b067 2 = .ok (.invokestatic 67, 3) := by decide +kernel
theorem dJ2_charAt_3b067_5 : decode cJ2_charAt_3b067 5 = .ok (.aload_n 0, 1) := by decide +kernel
theorem dJ2_charAt_3b067_6 : decode cJ2_charAt_3b067 6 = .ok (.iload_n 1, 1) := by decide +kernel
theorem dJ2_charAt_3b067_7 : decode cJ2_charAt_3b067 7 = .ok (.invokestatic 71, 3) := by decide +kernel
theorem dJ2_charAt_3b067_10 : decode cJ2_charAt_3b067 10 = .ok (.ireturn, 1) := by decide +kernel
theorem dJ2_checkIndex_2214a_0 : decode cJ2_checkIndex_2214a 0 = .ok (.iload_n 0, 1) := by decide +kernel
theorem dJ2_checkIndex_2214a_1 : decode cJ2_checkIndex_2214a 1 = .ok (.aload_n 1, 1) := by decide +kernel
theorem dJ2_checkIndex_2214a_2 : decode cJ2_checkIndex_2214a 2 = .ok (.invokestatic 48, 3) := by decide +kernel
theorem dJ2_checkIndex_2214a_5 : decode cJ2_checkIndex_2214a 5 = .ok (.invokestatic 414, 3) := by decide +kernel
theorem dJ2_checkIndex_2214a_8 : decode cJ2_checkIndex_2214a 8 = .ok (.return_, 1) := by decide +kernel
theorem dJ7_fill_53178_0 : decode cJ7_fill_53178 0 = .ok (.iconst 0, 1) := by decide +kernel
theorem dJ7_fill_53178_1 : decode cJ7_fill_53178 1 = .ok (.istore_n 2, 1) := by decide +kernel
theorem dJ7_fill_53178_2 : decode cJ7_fill_53178 2 = .ok (.aload_n 0, 1) := by decide +kernel
theorem dJ7_fill_53178_3 : decode cJ7_fill_53178 3 = .ok (.arraylength, 1) := by decide +kernel
theorem dJ7_fill_53178_4 : decode cJ7_fill_53178 4 = .ok (.istore_n 3, 1) := by decide +kernel
theorem dJ7_fill_53178_5 : decode cJ7_fill_53178 5 = .ok (.iload_n 2, 1) := by decide +kernel
theorem dJ7_fill_53178_6 : decode cJ7_fill_53178 6 = .ok (.iload_n 3, 1) := by decide +kernel
theorem dJ7_fill_53178_7 : decode cJ7_fill_53178 7 = .ok (.if_icmp .ge 13, 3) := by decide +kernel
theorem dJ7_fill_53178_10 : decode cJ7_fill_53178 10 = .ok (.aload_n 0, 1) := by decide +kernel
theorem dJ7_fill_53178_11 : decode cJ7_fill_53178 11 = .ok (.iload_n 2, 1) := by decide +kernel
theorem dJ7_fill_53178_12 : decode cJ7_fill_53178 12 = .ok (.iload_n 1, 1) := by decide +kernel
theorem dJ7_fill_53178_13 : decode cJ7_fill_53178 13 = .ok (.iastore, 1) := by decide +kernel
theorem dJ7_fill_53178_14 : decode cJ7_fill_53178 14 = .ok (.iinc 2 1, 3) := by decide +kernel
theorem dJ7_fill_53178_17 : decode cJ7_fill_53178 17 = .ok (.goto (-12), 3) := by decide +kernel
theorem dJ7_fill_53178_20 : decode cJ7_fill_53178 20 = .ok (.return_, 1) := by decide +kernel
theorem dJ7_copyOf_59c91_0 : decode cJ7_copyOf_59c91 0 = .ok (.iload_n 1, 1) := by decide +kernel
theorem dJ7_copyOf_59c91_1 : decode cJ7_copyOf_59c91 1 = .ok (.aload_n 0, 1) := by decide +kernel
theorem dJ7_copyOf_59c91_2 : decode cJ7_copyOf_59c91 2 = .ok (.arraylength, 1) := by decide +kernel
theorem dJ7_copyOf_59c91_3 : decode cJ7_copyOf_59c91 3 = .ok (.if_icmp .ne 11, 3) := by decide +kernel
theorem dJ7_copyOf_59c91_6 : decode cJ7_copyOf_59c91 6 = .ok (.aload_n 0, 1) := by decide +kernel
theorem dJ7_copyOf_59c91_7 : decode cJ7_copyOf_59c91 7 = .ok (.invokevirtual 316, 3) := by decide +kernel
theorem dJ7_copyOf_59c91_10 : decode cJ7_copyOf_59c91 10 = .ok (.checkcast 317, 3) := by decide +kernel
theorem dJ7_copyOf_59c91_13 : decode cJ7_copyOf_59c91 13 = .ok (.areturn, 1) := by decide +kernel
theorem dJ7_copyOf_59c91_14 : decode cJ7_copyOf_59c91 14 = .ok (.iload_n 1, 1) := by decide +kernel
theorem dJ7_copyOf_59c91_15 : decode cJ7_copyOf_59c91 15 = .ok (.newarray .int, 2) := by decide +kernel
theorem dJ7_copyOf_59c91_17 : decode cJ7_copyOf_59c91 17 = .ok (.astore_n 2, 1) := by decide +kernel
theorem dJ7_copyOf_59c91_18 : decode cJ7_copyOf_59c91 18 = .ok (.aload_n 0, 1) := by decide +kernel
theorem dJ7_copyOf_59c91_19 : decode cJ7_copyOf_59c91 19 = .ok (.iconst 0, 1) := by decide +kernel
theorem dJ7_copyOf_59c91_20 : decode cJ7_copyOf_59c91 20 = .ok (.aload_n 2, 1) := by decide +kernel
theorem dJ7_copyOf_59c91_21 : decode cJ7_copyOf_59c91 21 = .ok (.iconst 0, 1) := by decide +kernel
theorem dJ7_copyOf_59c91_22 : decode cJ7_copyOf_59c91 22 = .ok (.aload_n 0, 1) := by decide +kernel
theorem dJ7_copyOf_59c91_23 : decode cJ7_copyOf_59c91 23 = .ok (.arraylength, 1) := by decide +kernel
theorem dJ7_copyOf_59c91_24 : decode cJ7_copyOf_59c91 24 = .ok (.iload_n 1, 1) := by decide +kernel
theorem dJ7_copyOf_59c91_25 : decode cJ7_copyOf_59c91 25 = .ok (.invokestatic 304, 3) := by decide +kernel
theorem dJ7_copyOf_59c91_28 : decode cJ7_copyOf_59c91 28 = .ok (.invokestatic 150, 3) := by decide +kernel
theorem dJ7_copyOf_59c91_31 : decode cJ7_copyOf_59c91 31 = .ok (.aload_n 2, 1) := by decide +kernel
theorem dJ7_copyOf_59c91_32 : decode cJ7_copyOf_59c91 32 = .ok (.areturn, 1) := by decide +kernel
theorem dJ3_checkIndex_8e157_0 : decode cJ3_checkIndex_8e157 0 = .ok (.iload_n 0, 1) := by decide +kernel
theorem dJ3_checkIndex_8e157_1 : decode cJ3_checkIndex_8e157 1 = .ok (.ifCond .lt 8, 3) := by decide +kernel
theorem dJ3_checkIndex_8e157_4 : decode cJ3_checkIndex_8e157 4 = .ok (.iload_n 0, 1) := by decide +kernel
theorem dJ3_checkIndex_8e157_5 : decode cJ3_checkIndex_8e157 5 = .ok (.iload_n 1, 1) := by decide +kernel
theorem dJ3_checkIndex_8e157_6 : decode cJ3_checkIndex_8e157 6 = .ok (.if_icmp .lt 10, 3) := by decide +kernel
theorem dJ3_checkIndex_8e157_9 : decode cJ3_checkIndex_8e157 9 = .ok (.aload_n 2, 1) := by decide +kernel
theorem dJ3_checkIndex_8e157_10 : decode cJ3_checkIndex_8e157 10 = .ok (.iload_n 0, 1) := by decide +kernel
theorem dJ3_checkIndex_8e157_11 : decode cJ3_checkIndex_8e157 11 = .ok (.iload_n 1, 1) := by decide +kernel
theorem dJ3_checkIndex_8e157_12 : decode cJ3_checkIndex_8e157 12 = .ok (.invokestatic 95, 3) := by decide +kernel
theorem dJ3_checkIndex_8e157_15 : decode cJ3_checkIndex_8e157 15 = .ok (.athrow, 1) := by decide +kernel
theorem dJ3_checkIndex_8e157_16 : decode cJ3_checkIndex_8e157 16 = .ok (.iload_n 0, 1) := by decide +kernel
theorem dJ3_checkIndex_8e157_17 : decode cJ3_checkIndex_8e157 17 = .ok (.ireturn, 1) := by decide +kernel
theorem dL_land_0 : decode cL_land 0 = .ok (.aload_n 1, 1) := by decide +kernel
theorem dL_land_1 : decode cL_land 1 = .ok (.iconst 0, 1) := by decide +kernel
theorem dL_land_2 : decode cL_land 2 = .ok (.aload_n 0, 1) := by decide +kernel
theorem dL_land_3 : decode cL_land 3 = .ok (.invokevirtual 7, 3) := by decide +kernel
theorem dL_land_6 : decode cL_land 6 = .ok (.i2l, 1) := by decide +kernel
theorem dL_land_7 : decode cL_land 7 = .ok (.lastore, 1) := by decide +kernel
theorem dL_land_8 : decode cL_land 8 = .ok (.goto 9, 3) := by decide +kernel
theorem dL_land_11 : decode cL_land 11 = .ok (.astore_n 2, 1) := by decide +kernel
theorem dL_land_12 : decode cL_land 12 = .ok (.iconst 1, 1) := by decide +kernel
theorem dL_land_13 : decode cL_land 13 = .ok (.ireturn, 1) := by decide +kernel
theorem dL_land_14 : decode cL_land 14 = .ok (.astore_n 2, 1) := by decide +kernel
theorem dL_land_15 : decode cL_land 15 = .ok (.iconst 2, 1) := by decide +kernel
theorem dL_land_16 : decode cL_land 16 = .ok (.ireturn, 1) := by decide +kernel
theorem dL_land_17 : decode cL_land 17 = .ok (.iconst 0, 1) := by decide +kernel
theorem dL_land_18 : decode cL_land 18 = .ok (.ireturn, 1) := by decide +kernel
theorem dL_law_0 : decode cL_law 0 = .ok (.aload_n 1, 1) := by decide +kernel
theorem dL_law_1 : decode cL_law 1 = .ok (.iconst 0, 1) := by decide +kernel
theorem dL_law_2 : decode cL_law 2 = .ok (.aload_n 0, 1) := by decide +kernel
theorem dL_law_3 : decode cL_law 3 = .ok (.invokevirtual 17, 3) := by decide +kernel
theorem dL_law_6 : decode cL_law 6 = .ok (.i2l, 1) := by decide +kernel
theorem dL_law_7 : decode cL_law 7 = .ok (.lastore, 1) := by decide +kernel
theorem dL_law_8 : decode cL_law 8 = .ok (.goto 6, 3) := by decide +kernel
theorem dL_law_11 : decode cL_law 11 = .ok (.astore_n 2, 1) := by decide +kernel
theorem dL_law_12 : decode cL_law 12 = .ok (.iconst 1, 1) := by decide +kernel
theorem dL_law_13 : decode cL_law 13 = .ok (.ireturn, 1) := by decide +kernel
theorem dL_law_14 : decode cL_law 14 = .ok (.iconst 0, 1) := by decide +kernel
theorem dL_law_15 : decode cL_law 15 = .ok (.ireturn, 1) := by decide +kernel
theorem dL_cistern_0 : decode cL_cistern 0 = .ok (.aload_n 3, 1) := by decide +kernel
theorem dL_cistern_1 : decode cL_cistern 1 = .ok (.iconst 0, 1) := by decide +kernel
theorem dL_cistern_2 : decode cL_cistern 2 = .ok (.aload_n 0, 1) := by decide +kernel
theorem dL_cistern_3 : decode cL_cistern 3 = .ok (.iload_n 1, 1) := by decide +kernel
theorem dL_cistern_4 : decode cL_cistern 4 = .ok (.iload_n 2, 1) := by decide +kernel
theorem dL_cistern_5 : decode cL_cistern 5 = .ok (.invokevirtual 20, 3) := by decide +kernel
theorem dL_cistern_8 : decode cL_cistern 8 = .ok (.i2l, 1) := by decide +kernel
theorem dL_cistern_9 : decode cL_cistern 9 = .ok (.lastore, 1) := by decide +kernel
theorem dL_cistern_10 : decode cL_cistern 10 = .ok (.goto 11, 3) := by decide +kernel
theorem dL_cistern_13 : decode cL_cistern 13 = .ok (.astore 4, 2) := by decide +kernel
theorem dL_cistern_15 : decode cL_cistern 15 = .ok (.iconst 1, 1) := by decide +kernel
theorem dL_cistern_16 : decode cL_cistern 16 = .ok (.ireturn, 1) := by decide +kernel
theorem dL_cistern_17 : decode cL_cistern 17 = .ok (.astore 4, 2) := by decide +kernel
theorem dL_cistern_19 : decode cL_cistern 19 = .ok (.iconst 2, 1) := by decide +kernel
theorem dL_cistern_20 : decode cL_cistern 20 = .ok (.ireturn, 1) := by decide +kernel
theorem dL_cistern_21 : decode cL_cistern 21 = .ok (.iconst 0, 1) := by decide +kernel
theorem dL_cistern_22 : decode cL_cistern 22 = .ok (.ireturn, 1) := by decide +kernel
theorem dL_layer_0 : decode cL_layer 0 = .ok (.aload_n 3, 1) := by decide +kernel
theorem dL_layer_1 : decode cL_layer 1 = .ok (.iconst 0, 1) := by decide +kernel
theorem dL_layer_2 : decode cL_layer 2 = .ok (.aload_n 0, 1) := by decide +kernel
theorem dL_layer_3 : decode cL_layer 3 = .ok (.iload_n 1, 1) := by decide +kernel
theorem dL_layer_4 : decode cL_layer 4 = .ok (.iload_n 2, 1) := by decide +kernel
theorem dL_layer_5 : decode cL_layer 5 = .ok (.invokevirtual 28, 3) := by decide +kernel
theorem dL_layer_8 : decode cL_layer 8 = .ok (.i2l, 1) := by decide +kernel
theorem dL_layer_9 : decode cL_layer 9 = .ok (.lastore, 1) := by decide +kernel
theorem dL_layer_10 : decode cL_layer 10 = .ok (.goto 7, 3) := by decide +kernel
theorem dL_layer_13 : decode cL_layer 13 = .ok (.astore 4, 2) := by decide +kernel
theorem dL_layer_15 : decode cL_layer 15 = .ok (.iconst 1, 1) := by decide +kernel
theorem dL_layer_16 : decode cL_layer 16 = .ok (.ireturn, 1) := by decide +kernel
theorem dL_layer_17 : decode cL_layer 17 = .ok (.iconst 0, 1) := by decide +kernel
theorem dL_layer_18 : decode cL_layer 18 = .ok (.ireturn, 1) := by decide +kernel
theorem dL_salt_0 : decode cL_salt 0 = .ok (.aload_n 2, 1) := by decide +kernel
theorem dL_salt_1 : decode cL_salt 1 = .ok (.iconst 0, 1) := by decide +kernel
theorem dL_salt_2 : decode cL_salt 2 = .ok (.aload_n 0, 1) := by decide +kernel
theorem dL_salt_3 : decode cL_salt 3 = .ok (.iload_n 1, 1) := by decide +kernel
theorem dL_salt_4 : decode cL_salt 4 = .ok (.invokevirtual 31, 3) := by decide +kernel
theorem dL_salt_7 : decode cL_salt 7 = .ok (.i2l, 1) := by decide +kernel
theorem dL_salt_8 : decode cL_salt 8 = .ok (.lastore, 1) := by decide +kernel
theorem dL_salt_9 : decode cL_salt 9 = .ok (.goto 6, 3) := by decide +kernel
theorem dL_salt_12 : decode cL_salt 12 = .ok (.astore_n 3, 1) := by decide +kernel
theorem dL_salt_13 : decode cL_salt 13 = .ok (.iconst 1, 1) := by decide +kernel
theorem dL_salt_14 : decode cL_salt 14 = .ok (.ireturn, 1) := by decide +kernel
theorem dL_salt_15 : decode cL_salt 15 = .ok (.iconst 0, 1) := by decide +kernel
theorem dL_salt_16 : decode cL_salt 16 = .ok (.ireturn, 1) := by decide +kernel
theorem dL_house_0 : decode cL_house 0 = .ok (.aload_n 3, 1) := by decide +kernel
theorem dL_house_1 : decode cL_house 1 = .ok (.iconst 0, 1) := by decide +kernel
theorem dL_house_2 : decode cL_house 2 = .ok (.aload_n 0, 1) := by decide +kernel
theorem dL_house_3 : decode cL_house 3 = .ok (.iload_n 1, 1) := by decide +kernel
theorem dL_house_4 : decode cL_house 4 = .ok (.iload_n 2, 1) := by decide +kernel
theorem dL_house_5 : decode cL_house 5 = .ok (.invokevirtual 35, 3) := by decide +kernel
theorem dL_house_8 : decode cL_house 8 = .ok (.i2l, 1) := by decide +kernel
theorem dL_house_9 : decode cL_house 9 = .ok (.lastore, 1) := by decide +kernel
theorem dL_house_10 : decode cL_house 10 = .ok (.goto 11, 3) := by decide +kernel
theorem dL_house_13 : decode cL_house 13 = .ok (.astore 4, 2) := by decide +kernel
theorem dL_house_15 : decode cL_house 15 = .ok (.iconst 1, 1) := by decide +kernel
theorem dL_house_16 : decode cL_house 16 = .ok (.ireturn, 1) := by decide +kernel
theorem dL_house_17 : decode cL_house 17 = .ok (.astore 4, 2) := by decide +kernel
theorem dL_house_19 : decode cL_house 19 = .ok (.iconst 2, 1) := by decide +kernel
theorem dL_house_20 : decode cL_house 20 = .ok (.ireturn, 1) := by decide +kernel
theorem dL_house_21 : decode cL_house 21 = .ok (.iconst 0, 1) := by decide +kernel
theorem dL_house_22 : decode cL_house 22 = .ok (.ireturn, 1) := by decide +kernel
theorem dL_drank_0 : decode cL_drank 0 = .ok (.aload_n 3, 1) := by decide +kernel
theorem dL_drank_1 : decode cL_drank 1 = .ok (.iconst 0, 1) := by decide +kernel
theorem dL_drank_2 : decode cL_drank 2 = .ok (.aload_n 0, 1) := by decide +kernel
theorem dL_drank_3 : decode cL_drank 3 = .ok (.iload_n 1, 1) := by decide +kernel
theorem dL_drank_4 : decode cL_drank 4 = .ok (.iload_n 2, 1) := by decide +kernel
theorem dL_drank_5 : decode cL_drank 5 = .ok (.invokevirtual 38, 3) := by decide +kernel
theorem dL_drank_8 : decode cL_drank 8 = .ok (.i2l, 1) := by decide +kernel
theorem dL_drank_9 : decode cL_drank 9 = .ok (.lastore, 1) := by decide +kernel
theorem dL_drank_10 : decode cL_drank 10 = .ok (.goto 7, 3) := by decide +kernel
theorem dL_drank_13 : decode cL_drank 13 = .ok (.astore 4, 2) := by decide +kernel
theorem dL_drank_15 : decode cL_drank 15 = .ok (.iconst 1, 1) := by decide +kernel
theorem dL_drank_16 : decode cL_drank 16 = .ok (.ireturn, 1) := by decide +kernel
theorem dL_drank_17 : decode cL_drank 17 = .ok (.iconst 0, 1) := by decide +kernel
theorem dL_drank_18 : decode cL_drank 18 = .ok (.ireturn, 1) := by decide +kernel
theorem dL_place_0 : decode cL_place 0 = .ok (.aload_n 3, 1) := by decide +kernel
theorem dL_place_1 : decode cL_place 1 = .ok (.iconst 0, 1) := by decide +kernel
theorem dL_place_2 : decode cL_place 2 = .ok (.aload_n 0, 1) := by decide +kernel
theorem dL_place_3 : decode cL_place 3 = .ok (.iload_n 1, 1) := by decide +kernel
theorem dL_place_4 : decode cL_place 4 = .ok (.iload_n 2, 1) := by decide +kernel
theorem dL_place_5 : decode cL_place 5 = .ok (.invokevirtual 41, 3) := by decide +kernel
theorem dL_place_8 : decode cL_place 8 = .ok (.i2l, 1) := by decide +kernel
theorem dL_place_9 : decode cL_place 9 = .ok (.lastore, 1) := by decide +kernel
theorem dL_place_10 : decode cL_place 10 = .ok (.goto 7, 3) := by decide +kernel
theorem dL_place_13 : decode cL_place 13 = .ok (.astore 4, 2) := by decide +kernel
theorem dL_place_15 : decode cL_place 15 = .ok (.iconst 1, 1) := by decide +kernel
theorem dL_place_16 : decode cL_place 16 = .ok (.ireturn, 1) := by decide +kernel
theorem dL_place_17 : decode cL_place 17 = .ok (.iconst 0, 1) := by decide +kernel
theorem dL_place_18 : decode cL_place 18 = .ok (.ireturn, 1) := by decide +kernel
theorem dL_next_0 : decode cL_next 0 = .ok (.aload_n 2, 1) := by decide +kernel
theorem dL_next_1 : decode cL_next 1 = .ok (.iconst 0, 1) := by decide +kernel
theorem dL_next_2 : decode cL_next 2 = .ok (.aload_n 0, 1) := by decide +kernel
theorem dL_next_3 : decode cL_next 3 = .ok (.iload_n 1, 1) := by decide +kernel
theorem dL_next_4 : decode cL_next 4 = .ok (.invokevirtual 44, 3) := by decide +kernel
theorem dL_next_7 : decode cL_next 7 = .ok (.i2l, 1) := by decide +kernel
theorem dL_next_8 : decode cL_next 8 = .ok (.lastore, 1) := by decide +kernel
theorem dL_next_9 : decode cL_next 9 = .ok (.goto 6, 3) := by decide +kernel
theorem dL_next_12 : decode cL_next 12 = .ok (.astore_n 3, 1) := by decide +kernel
theorem dL_next_13 : decode cL_next 13 = .ok (.iconst 1, 1) := by decide +kernel
theorem dL_next_14 : decode cL_next 14 = .ok (.ireturn, 1) := by decide +kernel
theorem dL_next_15 : decode cL_next 15 = .ok (.iconst 0, 1) := by decide +kernel
theorem dL_next_16 : decode cL_next 16 = .ok (.ireturn, 1) := by decide +kernel
theorem dL_months_0 : decode cL_months 0 = .ok (.aload_n 2, 1) := by decide +kernel
theorem dL_months_1 : decode cL_months 1 = .ok (.iconst 0, 1) := by decide +kernel
theorem dL_months_2 : decode cL_months 2 = .ok (.aload_n 0, 1) := by decide +kernel
theorem dL_months_3 : decode cL_months 3 = .ok (.iload_n 1, 1) := by decide +kernel
theorem dL_months_4 : decode cL_months 4 = .ok (.invokevirtual 47, 3) := by decide +kernel
theorem dL_months_7 : decode cL_months 7 = .ok (.i2l, 1) := by decide +kernel
theorem dL_months_8 : decode cL_months 8 = .ok (.lastore, 1) := by decide +kernel
theorem dL_months_9 : decode cL_months 9 = .ok (.goto 6, 3) := by decide +kernel
theorem dL_months_12 : decode cL_months 12 = .ok (.astore_n 3, 1) := by decide +kernel
theorem dL_months_13 : decode cL_months 13 = .ok (.iconst 1, 1) := by decide +kernel
theorem dL_months_14 : decode cL_months 14 = .ok (.ireturn, 1) := by decide +kernel
theorem dL_months_15 : decode cL_months 15 = .ok (.iconst 0, 1) := by decide +kernel
theorem dL_months_16 : decode cL_months 16 = .ok (.ireturn, 1) := by decide +kernel
theorem dL_oath_0 : decode cL_oath 0 = .ok (.aload_n 3, 1) := by decide +kernel
theorem dL_oath_1 : decode cL_oath 1 = .ok (.iconst 0, 1) := by decide +kernel
theorem dL_oath_2 : decode cL_oath 2 = .ok (.aload_n 0, 1) := by decide +kernel
theorem dL_oath_3 : decode cL_oath 3 = .ok (.iload_n 1, 1) := by decide +kernel
theorem dL_oath_4 : decode cL_oath 4 = .ok (.iload_n 2, 1) := by decide +kernel
theorem dL_oath_5 : decode cL_oath 5 = .ok (.invokevirtual 50, 3) := by decide +kernel
theorem dL_oath_8 : decode cL_oath 8 = .ok (.i2l, 1) := by decide +kernel
theorem dL_oath_9 : decode cL_oath 9 = .ok (.lastore, 1) := by decide +kernel
theorem dL_oath_10 : decode cL_oath 10 = .ok (.goto 11, 3) := by decide +kernel
theorem dL_oath_13 : decode cL_oath 13 = .ok (.astore 4, 2) := by decide +kernel
theorem dL_oath_15 : decode cL_oath 15 = .ok (.iconst 1, 1) := by decide +kernel
theorem dL_oath_16 : decode cL_oath 16 = .ok (.ireturn, 1) := by decide +kernel
theorem dL_oath_17 : decode cL_oath 17 = .ok (.astore 4, 2) := by decide +kernel
theorem dL_oath_19 : decode cL_oath 19 = .ok (.iconst 2, 1) := by decide +kernel
theorem dL_oath_20 : decode cL_oath 20 = .ok (.ireturn, 1) := by decide +kernel
theorem dL_oath_21 : decode cL_oath 21 = .ok (.iconst 0, 1) := by decide +kernel
theorem dL_oath_22 : decode cL_oath 22 = .ok (.ireturn, 1) := by decide +kernel
theorem dL_winter_0 : decode cL_winter 0 = .ok (.aload_n 2, 1) := by decide +kernel
theorem dL_winter_1 : decode cL_winter 1 = .ok (.iconst 0, 1) := by decide +kernel
theorem dL_winter_2 : decode cL_winter 2 = .ok (.aload_n 0, 1) := by decide +kernel
theorem dL_winter_3 : decode cL_winter 3 = .ok (.iload_n 1, 1) := by decide +kernel
theorem dL_winter_4 : decode cL_winter 4 = .ok (.invokevirtual 53, 3) := by decide +kernel
theorem dL_winter_7 : decode cL_winter 7 = .ok (.i2l, 1) := by decide +kernel
theorem dL_winter_8 : decode cL_winter 8 = .ok (.lastore, 1) := by decide +kernel
theorem dL_winter_9 : decode cL_winter 9 = .ok (.goto 6, 3) := by decide +kernel
theorem dL_winter_12 : decode cL_winter 12 = .ok (.astore_n 3, 1) := by decide +kernel
theorem dL_winter_13 : decode cL_winter 13 = .ok (.iconst 1, 1) := by decide +kernel
theorem dL_winter_14 : decode cL_winter 14 = .ok (.ireturn, 1) := by decide +kernel
theorem dL_winter_15 : decode cL_winter 15 = .ok (.iconst 0, 1) := by decide +kernel
theorem dL_winter_16 : decode cL_winter 16 = .ok (.ireturn, 1) := by decide +kernel
theorem dL_seal_0 : decode cL_seal 0 = .ok (.aload_n 3, 1) := by decide +kernel
theorem dL_seal_1 : decode cL_seal 1 = .ok (.iconst 0, 1) := by decide +kernel
theorem dL_seal_2 : decode cL_seal 2 = .ok (.aload_n 0, 1) := by decide +kernel
theorem dL_seal_3 : decode cL_seal 3 = .ok (.iload_n 1, 1) := by decide +kernel
theorem dL_seal_4 : decode cL_seal 4 = .ok (.iload_n 2, 1) := by decide +kernel
theorem dL_seal_5 : decode cL_seal 5 = .ok (.invokevirtual 56, 3) := by decide +kernel
theorem dL_seal_8 : decode cL_seal 8 = .ok (.ifCond .eq 7, 3) := by decide +kernel
theorem dL_seal_11 : decode cL_seal 11 = .ok (.lconst 1, 1) := by decide +kernel
theorem dL_seal_12 : decode cL_seal 12 = .ok (.goto 4, 3) := by decide +kernel
theorem dL_seal_15 : decode cL_seal 15 = .ok (.lconst 0, 1) := by decide +kernel
theorem dL_seal_16 : decode cL_seal 16 = .ok (.lastore, 1) := by decide +kernel
theorem dL_seal_17 : decode cL_seal 17 = .ok (.goto 7, 3) := by decide +kernel
theorem dL_seal_20 : decode cL_seal 20 = .ok (.astore 4, 2) := by decide +kernel
theorem dL_seal_22 : decode cL_seal 22 = .ok (.iconst 1, 1) := by decide +kernel
theorem dL_seal_23 : decode cL_seal 23 = .ok (.ireturn, 1) := by decide +kernel
theorem dL_seal_24 : decode cL_seal 24 = .ok (.iconst 0, 1) := by decide +kernel
theorem dL_seal_25 : decode cL_seal 25 = .ok (.ireturn, 1) := by decide +kernel
theorem dL_blend_0 : decode cL_blend 0 = .ok (.aload 4, 2) := by decide +kernel
theorem dL_blend_2 : decode cL_blend 2 = .ok (.iconst 0, 1) := by decide +kernel
theorem dL_blend_3 : decode cL_blend 3 = .ok (.aload_n 0, 1) := by decide +kernel
theorem dL_blend_4 : decode cL_blend 4 = .ok (.iload_n 1, 1) := by decide +kernel
theorem dL_blend_5 : decode cL_blend 5 = .ok (.iload_n 2, 1) := by decide +kernel
theorem dL_blend_6 : decode cL_blend 6 = .ok (.iload_n 3, 1) := by decide +kernel
theorem dL_blend_7 : decode cL_blend 7 = .ok (.invokevirtual 60, 3) := by decide +kernel
theorem dL_blend_10 : decode cL_blend 10 = .ok (.i2l, 1) := by decide +kernel
theorem dL_blend_11 : decode cL_blend 11 = .ok (.lastore, 1) := by decide +kernel
theorem dL_blend_12 : decode cL_blend 12 = .ok (.goto 11, 3) := by decide +kernel
theorem dL_blend_15 : decode cL_blend 15 = .ok (.astore 5, 2) := by decide +kernel
theorem dL_blend_17 : decode cL_blend 17 = .ok (.iconst 1, 1) := by decide +kernel
theorem dL_blend_18 : decode cL_blend 18 = .ok (.ireturn, 1) := by decide +kernel
theorem dL_blend_19 : decode cL_blend 19 = .ok (.astore 5, 2) := by decide +kernel
theorem dL_blend_21 : decode cL_blend 21 = .ok (.iconst 2, 1) := by decide +kernel
theorem dL_blend_22 : decode cL_blend 22 = .ok (.ireturn, 1) := by decide +kernel
theorem dL_blend_23 : decode cL_blend 23 = .ok (.iconst 0, 1) := by decide +kernel
theorem dL_blend_24 : decode cL_blend 24 = .ok (.ireturn, 1) := by decide +kernel
theorem dL_judge_0 : decode cL_judge 0 = .ok (.aload_n 1, 1) := by decide +kernel
theorem dL_judge_1 : decode cL_judge 1 = .ok (.iconst 0, 1) := by decide +kernel
theorem dL_judge_2 : decode cL_judge 2 = .ok (.aload_n 0, 1) := by decide +kernel
theorem dL_judge_3 : decode cL_judge 3 = .ok (.invokevirtual 64, 3) := by decide +kernel
theorem dL_judge_6 : decode cL_judge 6 = .ok (.i2l, 1) := by decide +kernel
theorem dL_judge_7 : decode cL_judge 7 = .ok (.lastore, 1) := by decide +kernel
theorem dL_judge_8 : decode cL_judge 8 = .ok (.goto 6, 3) := by decide +kernel
theorem dL_judge_11 : decode cL_judge 11 = .ok (.astore_n 2, 1) := by decide +kernel
theorem dL_judge_12 : decode cL_judge 12 = .ok (.iconst 1, 1) := by decide +kernel
theorem dL_judge_13 : decode cL_judge 13 = .ok (.ireturn, 1) := by decide +kernel
theorem dL_judge_14 : decode cL_judge 14 = .ok (.iconst 0, 1) := by decide +kernel
theorem dL_judge_15 : decode cL_judge 15 = .ok (.ireturn, 1) := by decide +kernel
theorem dL_swap_0 : decode cL_swap 0 = .ok (.aload 6, 2) := by decide +kernel
theorem dL_swap_2 : decode cL_swap 2 = .ok (.iconst 0, 1) := by decide +kernel
theorem dL_swap_3 : decode cL_swap 3 = .ok (.aload_n 0, 1) := by decide +kernel
theorem dL_swap_4 : decode cL_swap 4 = .ok (.iload_n 1, 1) := by decide +kernel
theorem dL_swap_5 : decode cL_swap 5 = .ok (.iload_n 2, 1) := by decide +kernel
theorem dL_swap_6 : decode cL_swap 6 = .ok (.iload_n 3, 1) := by decide +kernel
theorem dL_swap_7 : decode cL_swap 7 = .ok (.iload 4, 2) := by decide +kernel
theorem dL_swap_9 : decode cL_swap 9 = .ok (.iload 5, 2) := by decide +kernel
theorem dL_swap_11 : decode cL_swap 11 = .ok (.invokevirtual 67, 3) := by decide +kernel
theorem dL_swap_14 : decode cL_swap 14 = .ok (.i2l, 1) := by decide +kernel
theorem dL_swap_15 : decode cL_swap 15 = .ok (.lastore, 1) := by decide +kernel
theorem dL_swap_16 : decode cL_swap 16 = .ok (.goto 11, 3) := by decide +kernel
theorem dL_swap_19 : decode cL_swap 19 = .ok (.astore 7, 2) := by decide +kernel
theorem dL_swap_21 : decode cL_swap 21 = .ok (.iconst 1, 1) := by decide +kernel
theorem dL_swap_22 : decode cL_swap 22 = .ok (.ireturn, 1) := by decide +kernel
theorem dL_swap_23 : decode cL_swap 23 = .ok (.astore 7, 2) := by decide +kernel
theorem dL_swap_25 : decode cL_swap 25 = .ok (.iconst 2, 1) := by decide +kernel
theorem dL_swap_26 : decode cL_swap 26 = .ok (.ireturn, 1) := by decide +kernel
theorem dL_swap_27 : decode cL_swap 27 = .ok (.iconst 0, 1) := by decide +kernel
theorem dL_swap_28 : decode cL_swap 28 = .ok (.ireturn, 1) := by decide +kernel
theorem dL_look_0 : decode cL_look 0 = .ok (.aload_n 1, 1) := by decide +kernel
theorem dL_look_1 : decode cL_look 1 = .ok (.iconst 0, 1) := by decide +kernel
theorem dL_look_2 : decode cL_look 2 = .ok (.aload_n 0, 1) := by decide +kernel
theorem dL_look_3 : decode cL_look 3 = .ok (.invokevirtual 71, 3) := by decide +kernel
theorem dL_look_6 : decode cL_look 6 = .ok (.i2l, 1) := by decide +kernel
theorem dL_look_7 : decode cL_look 7 = .ok (.lastore, 1) := by decide +kernel
theorem dL_look_8 : decode cL_look 8 = .ok (.goto 6, 3) := by decide +kernel
theorem dL_look_11 : decode cL_look 11 = .ok (.astore_n 2, 1) := by decide +kernel
theorem dL_look_12 : decode cL_look 12 = .ok (.iconst 1, 1) := by decide +kernel
theorem dL_look_13 : decode cL_look 13 = .ok (.ireturn, 1) := by decide +kernel
theorem dL_look_14 : decode cL_look 14 = .ok (.iconst 0, 1) := by decide +kernel
theorem dL_look_15 : decode cL_look 15 = .ok (.ireturn, 1) := by decide +kernel
theorem dL_site_0 : decode cL_site 0 = .ok (.aload_n 2, 1) := by decide +kernel
theorem dL_site_1 : decode cL_site 1 = .ok (.iconst 0, 1) := by decide +kernel
theorem dL_site_2 : decode cL_site 2 = .ok (.aload_n 0, 1) := by decide +kernel
theorem dL_site_3 : decode cL_site 3 = .ok (.iload_n 1, 1) := by decide +kernel
theorem dL_site_4 : decode cL_site 4 = .ok (.invokevirtual 74, 3) := by decide +kernel
theorem dL_site_7 : decode cL_site 7 = .ok (.i2l, 1) := by decide +kernel
theorem dL_site_8 : decode cL_site 8 = .ok (.lastore, 1) := by decide +kernel
theorem dL_site_9 : decode cL_site 9 = .ok (.goto 6, 3) := by decide +kernel
theorem dL_site_12 : decode cL_site 12 = .ok (.astore_n 3, 1) := by decide +kernel
theorem dL_site_13 : decode cL_site 13 = .ok (.iconst 1, 1) := by decide +kernel
theorem dL_site_14 : decode cL_site 14 = .ok (.ireturn, 1) := by decide +kernel
theorem dL_site_15 : decode cL_site 15 = .ok (.iconst 0, 1) := by decide +kernel
theorem dL_site_16 : decode cL_site 16 = .ok (.ireturn, 1) := by decide +kernel
theorem dL_owed_0 : decode cL_owed 0 = .ok (.aload_n 3, 1) := by decide +kernel
theorem dL_owed_1 : decode cL_owed 1 = .ok (.iconst 0, 1) := by decide +kernel
theorem dL_owed_2 : decode cL_owed 2 = .ok (.aload_n 0, 1) := by decide +kernel
theorem dL_owed_3 : decode cL_owed 3 = .ok (.iload_n 1, 1) := by decide +kernel
theorem dL_owed_4 : decode cL_owed 4 = .ok (.iload_n 2, 1) := by decide +kernel
theorem dL_owed_5 : decode cL_owed 5 = .ok (.invokevirtual 77, 3) := by decide +kernel
theorem dL_owed_8 : decode cL_owed 8 = .ok (.i2l, 1) := by decide +kernel
theorem dL_owed_9 : decode cL_owed 9 = .ok (.lastore, 1) := by decide +kernel
theorem dL_owed_10 : decode cL_owed 10 = .ok (.goto 11, 3) := by decide +kernel
theorem dL_owed_13 : decode cL_owed 13 = .ok (.astore 4, 2) := by decide +kernel
theorem dL_owed_15 : decode cL_owed 15 = .ok (.iconst 1, 1) := by decide +kernel
theorem dL_owed_16 : decode cL_owed 16 = .ok (.ireturn, 1) := by decide +kernel
theorem dL_owed_17 : decode cL_owed 17 = .ok (.astore 4, 2) := by decide +kernel
theorem dL_owed_19 : decode cL_owed 19 = .ok (.iconst 2, 1) := by decide +kernel
theorem dL_owed_20 : decode cL_owed 20 = .ok (.ireturn, 1) := by decide +kernel
theorem dL_owed_21 : decode cL_owed 21 = .ok (.iconst 0, 1) := by decide +kernel
theorem dL_owed_22 : decode cL_owed 22 = .ok (.ireturn, 1) := by decide +kernel
theorem dL_owe_0 : decode cL_owe 0 = .ok (.aload 4, 2) := by decide +kernel
theorem dL_owe_2 : decode cL_owe 2 = .ok (.iconst 0, 1) := by decide +kernel
theorem dL_owe_3 : decode cL_owe 3 = .ok (.aload_n 0, 1) := by decide +kernel
theorem dL_owe_4 : decode cL_owe 4 = .ok (.iload_n 1, 1) := by decide +kernel
theorem dL_owe_5 : decode cL_owe 5 = .ok (.iload_n 2, 1) := by decide +kernel
theorem dL_owe_6 : decode cL_owe 6 = .ok (.iload_n 3, 1) := by decide +kernel
theorem dL_owe_7 : decode cL_owe 7 = .ok (.invokevirtual 80, 3) := by decide +kernel
theorem dL_owe_10 : decode cL_owe 10 = .ok (.i2l, 1) := by decide +kernel
theorem dL_owe_11 : decode cL_owe 11 = .ok (.lastore, 1) := by decide +kernel
theorem dL_owe_12 : decode cL_owe 12 = .ok (.goto 15, 3) := by decide +kernel
theorem dL_owe_15 : decode cL_owe 15 = .ok (.astore 5, 2) := by decide +kernel
theorem dL_owe_17 : decode cL_owe 17 = .ok (.iconst 1, 1) := by decide +kernel
theorem dL_owe_18 : decode cL_owe 18 = .ok (.ireturn, 1) := by decide +kernel
theorem dL_owe_19 : decode cL_owe 19 = .ok (.astore 5, 2) := by decide +kernel
theorem dL_owe_21 : decode cL_owe 21 = .ok (.iconst 2, 1) := by decide +kernel
theorem dL_owe_22 : decode cL_owe 22 = .ok (.ireturn, 1) := by decide +kernel
theorem dL_owe_23 : decode cL_owe 23 = .ok (.astore 5, 2) := by decide +kernel
theorem dL_owe_25 : decode cL_owe 25 = .ok (.iconst 3, 1) := by decide +kernel
theorem dL_owe_26 : decode cL_owe 26 = .ok (.ireturn, 1) := by decide +kernel
theorem dL_owe_27 : decode cL_owe 27 = .ok (.iconst 0, 1) := by decide +kernel
theorem dL_owe_28 : decode cL_owe 28 = .ok (.ireturn, 1) := by decide +kernel
theorem dL_debt_0 : decode cL_debt 0 = .ok (.aload_n 2, 1) := by decide +kernel
theorem dL_debt_1 : decode cL_debt 1 = .ok (.iconst 0, 1) := by decide +kernel
theorem dL_debt_2 : decode cL_debt 2 = .ok (.aload_n 0, 1) := by decide +kernel
theorem dL_debt_3 : decode cL_debt 3 = .ok (.iload_n 1, 1) := by decide +kernel
theorem dL_debt_4 : decode cL_debt 4 = .ok (.invokevirtual 83, 3) := by decide +kernel
theorem dL_debt_7 : decode cL_debt 7 = .ok (.i2l, 1) := by decide +kernel
theorem dL_debt_8 : decode cL_debt 8 = .ok (.lastore, 1) := by decide +kernel
theorem dL_debt_9 : decode cL_debt 9 = .ok (.goto 6, 3) := by decide +kernel
theorem dL_debt_12 : decode cL_debt 12 = .ok (.astore_n 3, 1) := by decide +kernel
theorem dL_debt_13 : decode cL_debt 13 = .ok (.iconst 1, 1) := by decide +kernel
theorem dL_debt_14 : decode cL_debt 14 = .ok (.ireturn, 1) := by decide +kernel
theorem dL_debt_15 : decode cL_debt 15 = .ok (.iconst 0, 1) := by decide +kernel
theorem dL_debt_16 : decode cL_debt 16 = .ok (.ireturn, 1) := by decide +kernel
theorem dL_settle_0 : decode cL_settle 0 = .ok (.aload_n 2, 1) := by decide +kernel
theorem dL_settle_1 : decode cL_settle 1 = .ok (.iconst 0, 1) := by decide +kernel
theorem dL_settle_2 : decode cL_settle 2 = .ok (.aload_n 0, 1) := by decide +kernel
theorem dL_settle_3 : decode cL_settle 3 = .ok (.iload_n 1, 1) := by decide +kernel
theorem dL_settle_4 : decode cL_settle 4 = .ok (.invokevirtual 86, 3) := by decide +kernel
theorem dL_settle_7 : decode cL_settle 7 = .ok (.i2l, 1) := by decide +kernel
theorem dL_settle_8 : decode cL_settle 8 = .ok (.lastore, 1) := by decide +kernel
theorem dL_settle_9 : decode cL_settle 9 = .ok (.goto 6, 3) := by decide +kernel
theorem dL_settle_12 : decode cL_settle 12 = .ok (.astore_n 3, 1) := by decide +kernel
theorem dL_settle_13 : decode cL_settle 13 = .ok (.iconst 1, 1) := by decide +kernel
theorem dL_settle_14 : decode cL_settle 14 = .ok (.ireturn, 1) := by decide +kernel
theorem dL_settle_15 : decode cL_settle 15 = .ok (.iconst 0, 1) := by decide +kernel
theorem dL_settle_16 : decode cL_settle 16 = .ok (.ireturn, 1) := by decide +kernel
theorem dL_mix_0 : decode cL_mix 0 = .ok (.aload 4, 2) := by decide +kernel
theorem dL_mix_2 : decode cL_mix 2 = .ok (.iconst 0, 1) := by decide +kernel
theorem dL_mix_3 : decode cL_mix 3 = .ok (.aload_n 0, 1) := by decide +kernel
theorem dL_mix_4 : decode cL_mix 4 = .ok (.iload_n 1, 1) := by decide +kernel
theorem dL_mix_5 : decode cL_mix 5 = .ok (.iload_n 2, 1) := by decide +kernel
theorem dL_mix_6 : decode cL_mix 6 = .ok (.iload_n 3, 1) := by decide +kernel
theorem dL_mix_7 : decode cL_mix 7 = .ok (.invokevirtual 89, 3) := by decide +kernel
theorem dL_mix_10 : decode cL_mix 10 = .ok (.i2l, 1) := by decide +kernel
theorem dL_mix_11 : decode cL_mix 11 = .ok (.lastore, 1) := by decide +kernel
theorem dL_mix_12 : decode cL_mix 12 = .ok (.goto 11, 3) := by decide +kernel
theorem dL_mix_15 : decode cL_mix 15 = .ok (.astore 5, 2) := by decide +kernel
theorem dL_mix_17 : decode cL_mix 17 = .ok (.iconst 1, 1) := by decide +kernel
theorem dL_mix_18 : decode cL_mix 18 = .ok (.ireturn, 1) := by decide +kernel
theorem dL_mix_19 : decode cL_mix 19 = .ok (.astore 5, 2) := by decide +kernel
theorem dL_mix_21 : decode cL_mix 21 = .ok (.iconst 2, 1) := by decide +kernel
theorem dL_mix_22 : decode cL_mix 22 = .ok (.ireturn, 1) := by decide +kernel
theorem dL_mix_23 : decode cL_mix 23 = .ok (.iconst 0, 1) := by decide +kernel
theorem dL_mix_24 : decode cL_mix 24 = .ok (.ireturn, 1) := by decide +kernel
theorem dL_enough_0 : decode cL_enough 0 = .ok (.aload_n 3, 1) := by decide +kernel
theorem dL_enough_1 : decode cL_enough 1 = .ok (.iconst 0, 1) := by decide +kernel
theorem dL_enough_2 : decode cL_enough 2 = .ok (.aload_n 0, 1) := by decide +kernel
theorem dL_enough_3 : decode cL_enough 3 = .ok (.iload_n 1, 1) := by decide +kernel
theorem dL_enough_4 : decode cL_enough 4 = .ok (.iload_n 2, 1) := by decide +kernel
theorem dL_enough_5 : decode cL_enough 5 = .ok (.invokevirtual 92, 3) := by decide +kernel
theorem dL_enough_8 : decode cL_enough 8 = .ok (.i2l, 1) := by decide +kernel
theorem dL_enough_9 : decode cL_enough 9 = .ok (.lastore, 1) := by decide +kernel
theorem dL_enough_10 : decode cL_enough 10 = .ok (.goto 7, 3) := by decide +kernel
theorem dL_enough_13 : decode cL_enough 13 = .ok (.astore 4, 2) := by decide +kernel
theorem dL_enough_15 : decode cL_enough 15 = .ok (.iconst 1, 1) := by decide +kernel
theorem dL_enough_16 : decode cL_enough 16 = .ok (.ireturn, 1) := by decide +kernel
theorem dL_enough_17 : decode cL_enough 17 = .ok (.iconst 0, 1) := by decide +kernel
theorem dL_enough_18 : decode cL_enough 18 = .ok (.ireturn, 1) := by decide +kernel
theorem dL_latest_0 : decode cL_latest 0 = .ok (.aload_n 3, 1) := by decide +kernel
theorem dL_latest_1 : decode cL_latest 1 = .ok (.iconst 0, 1) := by decide +kernel
theorem dL_latest_2 : decode cL_latest 2 = .ok (.aload_n 0, 1) := by decide +kernel
theorem dL_latest_3 : decode cL_latest 3 = .ok (.iload_n 1, 1) := by decide +kernel
theorem dL_latest_4 : decode cL_latest 4 = .ok (.iload_n 2, 1) := by decide +kernel
theorem dL_latest_5 : decode cL_latest 5 = .ok (.invokevirtual 95, 3) := by decide +kernel
theorem dL_latest_8 : decode cL_latest 8 = .ok (.i2l, 1) := by decide +kernel
theorem dL_latest_9 : decode cL_latest 9 = .ok (.lastore, 1) := by decide +kernel
theorem dL_latest_10 : decode cL_latest 10 = .ok (.goto 7, 3) := by decide +kernel
theorem dL_latest_13 : decode cL_latest 13 = .ok (.astore 4, 2) := by decide +kernel
theorem dL_latest_15 : decode cL_latest 15 = .ok (.iconst 1, 1) := by decide +kernel
theorem dL_latest_16 : decode cL_latest 16 = .ok (.ireturn, 1) := by decide +kernel
theorem dL_latest_17 : decode cL_latest 17 = .ok (.iconst 0, 1) := by decide +kernel
theorem dL_latest_18 : decode cL_latest 18 = .ok (.ireturn, 1) := by decide +kernel
theorem dL_law__0 : decode cL_law_ 0 = .ok (.new 8, 3) := by decide +kernel
theorem dL_law__3 : decode cL_law_ 3 = .ok (.dup, 1) := by decide +kernel
theorem dL_law__4 : decode cL_law_ 4 = .ok (.invokespecial 98, 3) := by decide +kernel
theorem dL_law__7 : decode cL_law_ 7 = .ok (.astore_n 1, 1) := by decide +kernel
theorem dL_law__8 : decode cL_law_ 8 = .ok (.new 99, 3) := by decide +kernel
theorem dL_law__11 : decode cL_law_ 11 = .ok (.dup, 1) := by decide +kernel
theorem dL_law__12 : decode cL_law_ 12 = .ok (.invokespecial 101, 3) := by decide +kernel
theorem dL_law__15 : decode cL_law_ 15 = .ok (.astore_n 2, 1) := by decide +kernel
theorem dL_law__16 : decode cL_law_ 16 = .ok (.iconst 1, 1) := by decide +kernel
theorem dL_law__17 : decode cL_law_ 17 = .ok (.newarray .long, 2) := by decide +kernel
theorem dL_law__19 : decode cL_law_ 19 = .ok (.astore_n 3, 1) := by decide +kernel
theorem dL_law__20 : decode cL_law_ 20 = .ok (.iconst 0, 1) := by decide +kernel
theorem dL_law__21 : decode cL_law_ 21 = .ok (.istore 4, 2) := by decide +kernel
theorem dL_law__23 : decode cL_law_ 23 = .ok (.iload 4, 2) := by decide +kernel
theorem dL_law__25 : decode cL_law_ 25 = .ok (.aload_n 0, 1) := by decide +kernel
theorem dL_law__26 : decode cL_law_ 26 = .ok (.arraylength, 1) := by decide +kernel
theorem dL_law__27 : decode cL_law_ 27 = .ok (.bipush 6, 2) := by decide +kernel
theorem dL_law__29 : decode cL_law_ 29 = .ok (.isub, 1) := by decide +kernel
theorem dL_law__30 : decode cL_law_ 30 = .ok (.if_icmp .gt 2114, 3) := by decide +kernel
theorem dL_law__33 : decode cL_law_ 33 = .ok (.aload_n 0, 1) := by decide +kernel
theorem dL_law__34 : decode cL_law_ 34 = .ok (.iload 4, 2) := by decide +kernel
theorem dL_law__36 : decode cL_law_ 36 = .ok (.iaload, 1) := by decide +kernel
theorem dL_law__37 : decode cL_law_ 37 = .ok (.bipush 63, 2) := by decide +kernel
theorem dL_law__39 : decode cL_law_ 39 = .ok (.iand, 1) := by decide +kernel
theorem dL_law__40 : decode cL_law_ 40 = .ok (.tableswitch 2098 0 37 #[168, 241, 266, 310, 354, 367, 435, 503, 559, 627, 695, 763, 819, 875, 888, 956, 1012, 1103, 1128, 1208, 1221, 1234, 1278, 1382, 1407, 1432, 1476, 1532, 1600, 1680, 1736, 1792, 1872, 1913, 1981, 2049, 2060, 2073], 168) := by decide +kernel
theorem dL_law__208 : decode cL_law_ 208 = .ok (.aload_n 1, 1) := by decide +kernel
theorem dL_law__209 : decode cL_law_ 209 = .ok (.aload_n 0, 1) := by decide +kernel
theorem dL_law__210 : decode cL_law_ 210 = .ok (.iload 4, 2) := by decide +kernel
theorem dL_law__212 : decode cL_law_ 212 = .ok (.iconst 1, 1) := by decide +kernel
theorem dL_law__213 : decode cL_law_ 213 = .ok (.iadd, 1) := by decide +kernel
theorem dL_law__214 : decode cL_law_ 214 = .ok (.iaload, 1) := by decide +kernel
theorem dL_law__215 : decode cL_law_ 215 = .ok (.aload_n 0, 1) := by decide +kernel
theorem dL_law__216 : decode cL_law_ 216 = .ok (.iload 4, 2) := by decide +kernel
theorem dL_law__218 : decode cL_law_ 218 = .ok (.iconst 2, 1) := by decide +kernel
theorem dL_law__219 : decode cL_law_ 219 = .ok (.iadd, 1) := by decide +kernel
theorem dL_law__220 : decode cL_law_ 220 = .ok (.iaload, 1) := by decide +kernel
theorem dL_law__221 : decode cL_law_ 221 = .ok (.aload_n 0, 1) := by decide +kernel
theorem dL_law__222 : decode cL_law_ 222 = .ok (.iload 4, 2) := by decide +kernel
theorem dL_law__224 : decode cL_law_ 224 = .ok (.iconst 3, 1) := by decide +kernel
theorem dL_law__225 : decode cL_law_ 225 = .ok (.iadd, 1) := by decide +kernel
theorem dL_law__226 : decode cL_law_ 226 = .ok (.iaload, 1) := by decide +kernel
theorem dL_law__227 : decode cL_law_ 227 = .ok (.aload_n 0, 1) := by decide +kernel
theorem dL_law__228 : decode cL_law_ 228 = .ok (.iload 4, 2) := by decide +kernel
theorem dL_law__230 : decode cL_law_ 230 = .ok (.iconst 4, 1) := by decide +kernel
theorem dL_law__231 : decode cL_law_ 231 = .ok (.iadd, 1) := by decide +kernel
theorem dL_law__232 : decode cL_law_ 232 = .ok (.iaload, 1) := by decide +kernel
theorem dL_law__233 : decode cL_law_ 233 = .ok (.aload_n 0, 1) := by decide +kernel
theorem dL_law__234 : decode cL_law_ 234 = .ok (.iload 4, 2) := by decide +kernel
theorem dL_law__236 : decode cL_law_ 236 = .ok (.iconst 5, 1) := by decide +kernel
theorem dL_law__237 : decode cL_law_ 237 = .ok (.iadd, 1) := by decide +kernel
theorem dL_law__238 : decode cL_law_ 238 = .ok (.iaload, 1) := by decide +kernel
theorem dL_law__239 : decode cL_law_ 239 = .ok (.invokevirtual 102, 3) := by decide +kernel
theorem dL_law__242 : decode cL_law_ 242 = .ok (.aload_n 2, 1) := by decide +kernel
theorem dL_law__243 : decode cL_law_ 243 = .ok (.aload_n 0, 1) := by decide +kernel
theorem dL_law__244 : decode cL_law_ 244 = .ok (.iload 4, 2) := by decide +kernel
theorem dL_law__246 : decode cL_law_ 246 = .ok (.iconst 1, 1) := by decide +kernel
theorem dL_law__247 : decode cL_law_ 247 = .ok (.iadd, 1) := by decide +kernel
theorem dL_law__248 : decode cL_law_ 248 = .ok (.iaload, 1) := by decide +kernel
theorem dL_law__249 : decode cL_law_ 249 = .ok (.aload_n 0, 1) := by decide +kernel
theorem dL_law__250 : decode cL_law_ 250 = .ok (.iload 4, 2) := by decide +kernel
theorem dL_law__252 : decode cL_law_ 252 = .ok (.iconst 2, 1) := by decide +kernel
theorem dL_law__253 : decode cL_law_ 253 = .ok (.iadd, 1) := by decide +kernel
theorem dL_law__254 : decode cL_law_ 254 = .ok (.iaload, 1) := by decide +kernel
theorem dL_law__255 : decode cL_law_ 255 = .ok (.aload_n 0, 1) := by decide +kernel
theorem dL_law__256 : decode cL_law_ 256 = .ok (.iload 4, 2) := by decide +kernel
theorem dL_law__258 : decode cL_law_ 258 = .ok (.iconst 3, 1) := by decide +kernel
theorem dL_law__259 : decode cL_law_ 259 = .ok (.iadd, 1) := by decide +kernel
theorem dL_law__260 : decode cL_law_ 260 = .ok (.iaload, 1) := by decide +kernel
theorem dL_law__261 : decode cL_law_ 261 = .ok (.aload_n 0, 1) := by decide +kernel
theorem dL_law__262 : decode cL_law_ 262 = .ok (.iload 4, 2) := by decide +kernel
theorem dL_law__264 : decode cL_law_ 264 = .ok (.iconst 4, 1) := by decide +kernel
theorem dL_law__265 : decode cL_law_ 265 = .ok (.iadd, 1) := by decide +kernel
theorem dL_law__266 : decode cL_law_ 266 = .ok (.iaload, 1) := by decide +kernel
theorem dL_law__267 : decode cL_law_ 267 = .ok (.aload_n 0, 1) := by decide +kernel
theorem dL_law__268 : decode cL_law_ 268 = .ok (.iload 4, 2) := by decide +kernel
theorem dL_law__270 : decode cL_law_ 270 = .ok (.iconst 5, 1) := by decide +kernel
theorem dL_law__271 : decode cL_law_ 271 = .ok (.iadd, 1) := by decide +kernel
theorem dL_law__272 : decode cL_law_ 272 = .ok (.iaload, 1) := by decide +kernel
theorem dL_law__273 : decode cL_law_ 273 = .ok (.invokevirtual 105, 3) := by decide +kernel
theorem dL_law__276 : decode cL_law_ 276 = .ok (.if_icmp .eq 1862, 3) := by decide +kernel
theorem dL_law__279 : decode cL_law_ 279 = .ok (.iconst 0, 1) := by decide +kernel
theorem dL_law__280 : decode cL_law_ 280 = .ok (.ireturn, 1) := by decide +kernel
theorem dL_law__281 : decode cL_law_ 281 = .ok (.aload_n 1, 1) := by decide +kernel
theorem dL_law__282 : decode cL_law_ 282 = .ok (.aload_n 0, 1) := by decide +kernel
theorem dL_law__283 : decode cL_law_ 283 = .ok (.iload 4, 2) := by decide +kernel
theorem dL_law__285 : decode cL_law_ 285 = .ok (.iconst 1, 1) := by decide +kernel
theorem dL_law__286 : decode cL_law_ 286 = .ok (.iadd, 1) := by decide +kernel
theorem dL_law__287 : decode cL_law_ 287 = .ok (.iaload, 1) := by decide +kernel
theorem dL_law__288 : decode cL_law_ 288 = .ok (.invokevirtual 106, 3) := by decide +kernel
theorem dL_law__291 : decode cL_law_ 291 = .ok (.aload_n 2, 1) := by decide +kernel
theorem dL_law__292 : decode cL_law_ 292 = .ok (.aload_n 0, 1) := by decide +kernel
theorem dL_law__293 : decode cL_law_ 293 = .ok (.iload 4, 2) := by decide +kernel
theorem dL_law__295 : decode cL_law_ 295 = .ok (.iconst 1, 1) := by decide +kernel
theorem dL_law__296 : decode cL_law_ 296 = .ok (.iadd, 1) := by decide +kernel
theorem dL_law__297 : decode cL_law_ 297 = .ok (.iaload, 1) := by decide +kernel
theorem dL_law__298 : decode cL_law_ 298 = .ok (.invokevirtual 110, 3) := by decide +kernel
theorem dL_law__301 : decode cL_law_ 301 = .ok (.if_icmp .eq 1837, 3) := by decide +kernel
theorem dL_law__304 : decode cL_law_ 304 = .ok (.iconst 0, 1) := by decide +kernel
theorem dL_law__305 : decode cL_law_ 305 = .ok (.ireturn, 1) := by decide +kernel
theorem dL_law__306 : decode cL_law_ 306 = .ok (.aload_n 1, 1) := by decide +kernel
theorem dL_law__307 : decode cL_law_ 307 = .ok (.aload_n 3, 1) := by decide +kernel
theorem dL_law__308 : decode cL_law_ 308 = .ok (.invokestatic 111, 3) := by decide +kernel
theorem dL_law__311 : decode cL_law_ 311 = .ok (.istore 5, 2) := by decide +kernel
theorem dL_law__313 : decode cL_law_ 313 = .ok (.aload_n 2, 1) := by decide +kernel
theorem dL_law__314 : decode cL_law_ 314 = .ok (.invokevirtual 116, 3) := by decide +kernel
theorem dL_law__317 : decode cL_law_ 317 = .ok (.istore 6, 2) := by decide +kernel
theorem dL_law__319 : decode cL_law_ 319 = .ok (.aload_n 2, 1) := by decide +kernel
theorem dL_law__320 : decode cL_law_ 320 = .ok (.invokevirtual 117, 3) := by decide +kernel
theorem dL_law__323 : decode cL_law_ 323 = .ok (.iload 5, 2) := by decide +kernel
theorem dL_law__325 : decode cL_law_ 325 = .ok (.if_icmp .eq 5, 3) := by decide +kernel
theorem dL_law__328 : decode cL_law_ 328 = .ok (.iconst 0, 1) := by decide +kernel
theorem dL_law__329 : decode cL_law_ 329 = .ok (.ireturn, 1) := by decide +kernel
theorem dL_law__330 : decode cL_law_ 330 = .ok (.iload 5, 2) := by decide +kernel
theorem dL_law__332 : decode cL_law_ 332 = .ok (.ifCond .ne 15, 3) := by decide +kernel
theorem dL_law__335 : decode cL_law_ 335 = .ok (.aload_n 3, 1) := by decide +kernel
theorem dL_law__336 : decode cL_law_ 336 = .ok (.iconst 0, 1) := by decide +kernel
theorem dL_law__337 : decode cL_law_ 337 = .ok (.laload, 1) := by decide +kernel
theorem dL_law__338 : decode cL_law_ 338 = .ok (.iload 6, 2) := by decide +kernel
theorem dL_law__340 : decode cL_law_ 340 = .ok (.i2l, 1) := by decide +kernel
theorem dL_law__341 : decode cL_law_ 341 = .ok (.lcmp, 1) := by decide +kernel
theorem dL_law__342 : decode cL_law_ 342 = .ok (.ifCond .eq 5, 3) := by decide +kernel
theorem dL_law__345 : decode cL_law_ 345 = .ok (.iconst 0, 1) := by decide +kernel
theorem dL_law__346 : decode cL_law_ 346 = .ok (.ireturn, 1) := by decide +kernel
theorem dL_law__347 : decode cL_law_ 347 = .ok (.goto 1791, 3) := by decide +kernel
theorem dL_law__350 : decode cL_law_ 350 = .ok (.aload_n 1, 1) := by decide +kernel
theorem dL_law__351 : decode cL_law_ 351 = .ok (.aload_n 3, 1) := by decide +kernel
theorem dL_law__352 : decode cL_law_ 352 = .ok (.invokestatic 120, 3) := by decide +kernel
theorem dL_law__355 : decode cL_law_ 355 = .ok (.istore 5, 2) := by decide +kernel
theorem dL_law__357 : decode cL_law_ 357 = .ok (.aload_n 2, 1) := by decide +kernel
theorem dL_law__358 : decode cL_law_ 358 = .ok (.invokevirtual 122, 3) := by decide +kernel
theorem dL_law__361 : decode cL_law_ 361 = .ok (.istore 6, 2) := by decide +kernel
theorem dL_law__363 : decode cL_law_ 363 = .ok (.aload_n 2, 1) := by decide +kernel
theorem dL_law__364 : decode cL_law_ 364 = .ok (.invokevirtual 117, 3) := by decide +kernel
theorem dL_law__367 : decode cL_law_ 367 = .ok (.iload 5, 2) := by decide +kernel
theorem dL_law__369 : decode cL_law_ 369 = .ok (.if_icmp .eq 5, 3) := by decide +kernel
theorem dL_law__372 : decode cL_law_ 372 = .ok (.iconst 0, 1) := by decide +kernel
theorem dL_law__373 : decode cL_law_ 373 = .ok (.ireturn, 1) := by decide +kernel
theorem dL_law__374 : decode cL_law_ 374 = .ok (.iload 5, 2) := by decide +kernel
theorem dL_law__376 : decode cL_law_ 376 = .ok (.ifCond .ne 15, 3) := by decide +kernel
theorem dL_law__379 : decode cL_law_ 379 = .ok (.aload_n 3, 1) := by decide +kernel
theorem dL_law__380 : decode cL_law_ 380 = .ok (.iconst 0, 1) := by decide +kernel
theorem dL_law__381 : decode cL_law_ 381 = .ok (.laload, 1) := by decide +kernel
theorem dL_law__382 : decode cL_law_ 382 = .ok (.iload 6, 2) := by decide +kernel
theorem dL_law__384 : decode cL_law_ 384 = .ok (.i2l, 1) := by decide +kernel
theorem dL_law__385 : decode cL_law_ 385 = .ok (.lcmp, 1) := by decide +kernel
theorem dL_law__386 : decode cL_law_ 386 = .ok (.ifCond .eq 5, 3) := by decide +kernel
theorem dL_law__389 : decode cL_law_ 389 = .ok (.iconst 0, 1) := by decide +kernel
theorem dL_law__390 : decode cL_law_ 390 = .ok (.ireturn, 1) := by decide +kernel
theorem dL_law__391 : decode cL_law_ 391 = .ok (.goto 1747, 3) := by decide +kernel
theorem dL_law__394 : decode cL_law_ 394 = .ok (.aload_n 1, 1) := by decide +kernel
theorem dL_law__395 : decode cL_law_ 395 = .ok (.invokevirtual 123, 3) := by decide +kernel
theorem dL_law__398 : decode cL_law_ 398 = .ok (.aload_n 2, 1) := by decide +kernel
theorem dL_law__399 : decode cL_law_ 399 = .ok (.invokevirtual 126, 3) := by decide +kernel
theorem dL_law__402 : decode cL_law_ 402 = .ok (.if_icmp .eq 1736, 3) := by decide +kernel
theorem dL_law__405 : decode cL_law_ 405 = .ok (.iconst 0, 1) := by decide +kernel
theorem dL_law__406 : decode cL_law_ 406 = .ok (.ireturn, 1) := by decide +kernel
theorem dL_law__407 : decode cL_law_ 407 = .ok (.aload_n 1, 1) := by decide +kernel
theorem dL_law__408 : decode cL_law_ 408 = .ok (.aload_n 0, 1) := by decide +kernel
theorem dL_law__409 : decode cL_law_ 409 = .ok (.iload 4, 2) := by decide +kernel
theorem dL_law__411 : decode cL_law_ 411 = .ok (.iconst 1, 1) := by decide +kernel
theorem dL_law__412 : decode cL_law_ 412 = .ok (.iadd, 1) := by decide +kernel
theorem dL_law__413 : decode cL_law_ 413 = .ok (.iaload, 1) := by decide +kernel
theorem dL_law__414 : decode cL_law_ 414 = .ok (.aload_n 0, 1) := by decide +kernel
theorem dL_law__415 : decode cL_law_ 415 = .ok (.iload 4, 2) := by decide +kernel
theorem dL_law__417 : decode cL_law_ 417 = .ok (.iconst 2, 1) := by decide +kernel
theorem dL_law__418 : decode cL_law_ 418 = .ok (.iadd, 1) := by decide +kernel
theorem dL_law__419 : decode cL_law_ 419 = .ok (.iaload, 1) := by decide +kernel
theorem dL_law__420 : decode cL_law_ 420 = .ok (.aload_n 3, 1) := by decide +kernel
theorem dL_law__421 : decode cL_law_ 421 = .ok (.invokestatic 127, 3) := by decide +kernel
theorem dL_law__424 : decode cL_law_ 424 = .ok (.istore 5, 2) := by decide +kernel
theorem dL_law__426 : decode cL_law_ 426 = .ok (.aload_n 2, 1) := by decide +kernel
theorem dL_law__427 : decode cL_law_ 427 = .ok (.aload_n 0, 1) := by decide +kernel
theorem dL_law__428 : decode cL_law_ 428 = .ok (.iload 4, 2) := by decide +kernel
theorem dL_law__430 : decode cL_law_ 430 = .ok (.iconst 1, 1) := by decide +kernel
theorem dL_law__431 : decode cL_law_ 431 = .ok (.iadd, 1) := by decide +kernel
theorem dL_law__432 : decode cL_law_ 432 = .ok (.iaload, 1) := by decide +kernel
theorem dL_law__433 : decode cL_law_ 433 = .ok (.aload_n 0, 1) := by decide +kernel
theorem dL_law__434 : decode cL_law_ 434 = .ok (.iload 4, 2) := by decide +kernel
theorem dL_law__436 : decode cL_law_ 436 = .ok (.iconst 2, 1) := by decide +kernel
theorem dL_law__437 : decode cL_law_ 437 = .ok (.iadd, 1) := by decide +kernel
theorem dL_law__438 : decode cL_law_ 438 = .ok (.iaload, 1) := by decide +kernel
theorem dL_law__439 : decode cL_law_ 439 = .ok (.invokevirtual 130, 3) := by decide +kernel
theorem dL_law__442 : decode cL_law_ 442 = .ok (.istore 6, 2) := by decide +kernel
theorem dL_law__444 : decode cL_law_ 444 = .ok (.aload_n 2, 1) := by decide +kernel
theorem dL_law__445 : decode cL_law_ 445 = .ok (.invokevirtual 117, 3) := by decide +kernel
theorem dL_law__448 : decode cL_law_ 448 = .ok (.iload 5, 2) := by decide +kernel
theorem dL_law__450 : decode cL_law_ 450 = .ok (.if_icmp .eq 5, 3) := by decide +kernel
theorem dL_law__453 : decode cL_law_ 453 = .ok (.iconst 0, 1) := by decide +kernel
theorem dL_law__454 : decode cL_law_ 454 = .ok (.ireturn, 1) := by decide +kernel
theorem dL_law__455 : decode cL_law_ 455 = .ok (.iload 5, 2) := by decide +kernel
theorem dL_law__457 : decode cL_law_ 457 = .ok (.ifCond .ne 15, 3) := by decide +kernel
theorem dL_law__460 : decode cL_law_ 460 = .ok (.aload_n 3, 1) := by decide +kernel
theorem dL_law__461 : decode cL_law_ 461 = .ok (.iconst 0, 1) := by decide +kernel
theorem dL_law__462 : decode cL_law_ 462 = .ok (.laload, 1) := by decide +kernel
theorem dL_law__463 : decode cL_law_ 463 = .ok (.iload 6, 2) := by decide +kernel
theorem dL_law__465 : decode cL_law_ 465 = .ok (.i2l, 1) := by decide +kernel
theorem dL_law__466 : decode cL_law_ 466 = .ok (.lcmp, 1) := by decide +kernel
theorem dL_law__467 : decode cL_law_ 467 = .ok (.ifCond .eq 5, 3) := by decide +kernel
theorem dL_law__470 : decode cL_law_ 470 = .ok (.iconst 0, 1) := by decide +kernel
theorem dL_law__471 : decode cL_law_ 471 = .ok (.ireturn, 1) := by decide +kernel
theorem dL_law__472 : decode cL_law_ 472 = .ok (.goto 1666, 3) := by decide +kernel
theorem dL_law__475 : decode cL_law_ 475 = .ok (.aload_n 1, 1) := by decide +kernel
theorem dL_law__476 : decode cL_law_ 476 = .ok (.aload_n 0, 1) := by decide +kernel
theorem dL_law__477 : decode cL_law_ 477 = .ok (.iload 4, 2) := by decide +kernel
theorem dL_law__479 : decode cL_law_ 479 = .ok (.iconst 1, 1) := by decide +kernel
theorem dL_law__480 : decode cL_law_ 480 = .ok (.iadd, 1) := by decide +kernel
theorem dL_law__481 : decode cL_law_ 481 = .ok (.iaload, 1) := by decide +kernel
theorem dL_law__482 : decode cL_law_ 482 = .ok (.aload_n 0, 1) := by decide +kernel
theorem dL_law__483 : decode cL_law_ 483 = .ok (.iload 4, 2) := by decide +kernel
theorem dL_law__485 : decode cL_law_ 485 = .ok (.iconst 2, 1) := by decide +kernel
theorem dL_law__486 : decode cL_law_ 486 = .ok (.iadd, 1) := by decide +kernel
theorem dL_law__487 : decode cL_law_ 487 = .ok (.iaload, 1) := by decide +kernel
theorem dL_law__488 : decode cL_law_ 488 = .ok (.aload_n 3, 1) := by decide +kernel
theorem dL_law__489 : decode cL_law_ 489 = .ok (.invokestatic 131, 3) := by decide +kernel
theorem dL_law__492 : decode cL_law_ 492 = .ok (.istore 5, 2) := by decide +kernel
theorem dL_law__494 : decode cL_law_ 494 = .ok (.aload_n 2, 1) := by decide +kernel
theorem dL_law__495 : decode cL_law_ 495 = .ok (.aload_n 0, 1) := by decide +kernel
theorem dL_law__496 : decode cL_law_ 496 = .ok (.iload 4, 2) := by decide +kernel
theorem dL_law__498 : decode cL_law_ 498 = .ok (.iconst 1, 1) := by decide +kernel
theorem dL_law__499 : decode cL_law_ 499 = .ok (.iadd, 1) := by decide +kernel
theorem dL_law__500 : decode cL_law_ 500 = .ok (.iaload, 1) := by decide +kernel
theorem dL_law__501 : decode cL_law_ 501 = .ok (.aload_n 0, 1) := by decide +kernel
theorem dL_law__502 : decode cL_law_ 502 = .ok (.iload 4, 2) := by decide +kernel
theorem dL_law__504 : decode cL_law_ 504 = .ok (.iconst 2, 1) := by decide +kernel
theorem dL_law__505 : decode cL_law_ 505 = .ok (.iadd, 1) := by decide +kernel
theorem dL_law__506 : decode cL_law_ 506 = .ok (.iaload, 1) := by decide +kernel
theorem dL_law__507 : decode cL_law_ 507 = .ok (.invokevirtual 133, 3) := by decide +kernel
theorem dL_law__510 : decode cL_law_ 510 = .ok (.istore 6, 2) := by decide +kernel
theorem dL_law__512 : decode cL_law_ 512 = .ok (.aload_n 2, 1) := by decide +kernel
theorem dL_law__513 : decode cL_law_ 513 = .ok (.invokevirtual 117, 3) := by decide +kernel
theorem dL_law__516 : decode cL_law_ 516 = .ok (.iload 5, 2) := by decide +kernel
theorem dL_law__518 : decode cL_law_ 518 = .ok (.if_icmp .eq 5, 3) := by decide +kernel
theorem dL_law__521 : decode cL_law_ 521 = .ok (.iconst 0, 1) := by decide +kernel
theorem dL_law__522 : decode cL_law_ 522 = .ok (.ireturn, 1) := by decide +kernel
theorem dL_law__523 : decode cL_law_ 523 = .ok (.iload 5, 2) := by decide +kernel
theorem dL_law__525 : decode cL_law_ 525 = .ok (.ifCond .ne 15, 3) := by decide +kernel
theorem dL_law__528 : decode cL_law_ 528 = .ok (.aload_n 3, 1) := by decide +kernel
theorem dL_law__529 : decode cL_law_ 529 = .ok (.iconst 0, 1) := by decide +kernel
theorem dL_law__530 : decode cL_law_ 530 = .ok (.laload, 1) := by decide +kernel
theorem dL_law__531 : decode cL_law_ 531 = .ok (.iload 6, 2) := by decide +kernel
theorem dL_law__533 : decode cL_law_ 533 = .ok (.i2l, 1) := by decide +kernel
theorem dL_law__534 : decode cL_law_ 534 = .ok (.lcmp, 1) := by decide +kernel
theorem dL_law__535 : decode cL_law_ 535 = .ok (.ifCond .eq 5, 3) := by decide +kernel
theorem dL_law__538 : decode cL_law_ 538 = .ok (.iconst 0, 1) := by decide +kernel
theorem dL_law__539 : decode cL_law_ 539 = .ok (.ireturn, 1) := by decide +kernel
theorem dL_law__540 : decode cL_law_ 540 = .ok (.goto 1598, 3) := by decide +kernel
theorem dL_law__543 : decode cL_law_ 543 = .ok (.aload_n 1, 1) := by decide +kernel
theorem dL_law__544 : decode cL_law_ 544 = .ok (.aload_n 0, 1) := by decide +kernel
theorem dL_law__545 : decode cL_law_ 545 = .ok (.iload 4, 2) := by decide +kernel
theorem dL_law__547 : decode cL_law_ 547 = .ok (.iconst 1, 1) := by decide +kernel
theorem dL_law__548 : decode cL_law_ 548 = .ok (.iadd, 1) := by decide +kernel
theorem dL_law__549 : decode cL_law_ 549 = .ok (.iaload, 1) := by decide +kernel
theorem dL_law__550 : decode cL_law_ 550 = .ok (.aload_n 3, 1) := by decide +kernel
theorem dL_law__551 : decode cL_law_ 551 = .ok (.invokestatic 134, 3) := by decide +kernel
theorem dL_law__554 : decode cL_law_ 554 = .ok (.istore 5, 2) := by decide +kernel
theorem dL_law__556 : decode cL_law_ 556 = .ok (.aload_n 2, 1) := by decide +kernel
theorem dL_law__557 : decode cL_law_ 557 = .ok (.aload_n 0, 1) := by decide +kernel
theorem dL_law__558 : decode cL_law_ 558 = .ok (.iload 4, 2) := by decide +kernel
theorem dL_law__560 : decode cL_law_ 560 = .ok (.iconst 1, 1) := by decide +kernel
theorem dL_law__561 : decode cL_law_ 561 = .ok (.iadd, 1) := by decide +kernel
theorem dL_law__562 : decode cL_law_ 562 = .ok (.iaload, 1) := by decide +kernel
theorem dL_law__563 : decode cL_law_ 563 = .ok (.invokevirtual 137, 3) := by decide +kernel
theorem dL_law__566 : decode cL_law_ 566 = .ok (.istore 6, 2) := by decide +kernel
theorem dL_law__568 : decode cL_law_ 568 = .ok (.aload_n 2, 1) := by decide +kernel
theorem dL_law__569 : decode cL_law_ 569 = .ok (.invokevirtual 117, 3) := by decide +kernel
theorem dL_law__572 : decode cL_law_ 572 = .ok (.iload 5, 2) := by decide +kernel
theorem dL_law__574 : decode cL_law_ 574 = .ok (.if_icmp .eq 5, 3) := by decide +kernel
theorem dL_law__577 : decode cL_law_ 577 = .ok (.iconst 0, 1) := by decide +kernel
theorem dL_law__578 : decode cL_law_ 578 = .ok (.ireturn, 1) := by decide +kernel
theorem dL_law__579 : decode cL_law_ 579 = .ok (.iload 5, 2) := by decide +kernel
theorem dL_law__581 : decode cL_law_ 581 = .ok (.ifCond .ne 15, 3) := by decide +kernel
theorem dL_law__584 : decode cL_law_ 584 = .ok (.aload_n 3, 1) := by decide +kernel
theorem dL_law__585 : decode cL_law_ 585 = .ok (.iconst 0, 1) := by decide +kernel
theorem dL_law__586 : decode cL_law_ 586 = .ok (.laload, 1) := by decide +kernel
theorem dL_law__587 : decode cL_law_ 587 = .ok (.iload 6, 2) := by decide +kernel
theorem dL_law__589 : decode cL_law_ 589 = .ok (.i2l, 1) := by decide +kernel
theorem dL_law__590 : decode cL_law_ 590 = .ok (.lcmp, 1) := by decide +kernel
theorem dL_law__591 : decode cL_law_ 591 = .ok (.ifCond .eq 5, 3) := by decide +kernel
theorem dL_law__594 : decode cL_law_ 594 = .ok (.iconst 0, 1) := by decide +kernel
theorem dL_law__595 : decode cL_law_ 595 = .ok (.ireturn, 1) := by decide +kernel
theorem dL_law__596 : decode cL_law_ 596 = .ok (.goto 1542, 3) := by decide +kernel
theorem dL_law__599 : decode cL_law_ 599 = .ok (.aload_n 1, 1) := by decide +kernel
theorem dL_law__600 : decode cL_law_ 600 = .ok (.aload_n 0, 1) := by decide +kernel
theorem dL_law__601 : decode cL_law_ 601 = .ok (.iload 4, 2) := by decide +kernel
theorem dL_law__603 : decode cL_law_ 603 = .ok (.iconst 1, 1) := by decide +kernel
theorem dL_law__604 : decode cL_law_ 604 = .ok (.iadd, 1) := by decide +kernel
theorem dL_law__605 : decode cL_law_ 605 = .ok (.iaload, 1) := by decide +kernel
theorem dL_law__606 : decode cL_law_ 606 = .ok (.aload_n 0, 1) := by decide +kernel
theorem dL_law__607 : decode cL_law_ 607 = .ok (.iload 4, 2) := by decide +kernel
theorem dL_law__609 : decode cL_law_ 609 = .ok (.iconst 2, 1) := by decide +kernel
theorem dL_law__610 : decode cL_law_ 610 = .ok (.iadd, 1) := by decide +kernel
theorem dL_law__611 : decode cL_law_ 611 = .ok (.iaload, 1) := by decide +kernel
theorem dL_law__612 : decode cL_law_ 612 = .ok (.aload_n 3, 1) := by decide +kernel
theorem dL_law__613 : decode cL_law_ 613 = .ok (.invokestatic 138, 3) := by decide +kernel
theorem dL_law__616 : decode cL_law_ 616 = .ok (.istore 5, 2) := by decide +kernel
theorem dL_law__618 : decode cL_law_ 618 = .ok (.aload_n 2, 1) := by decide +kernel
theorem dL_law__619 : decode cL_law_ 619 = .ok (.aload_n 0, 1) := by decide +kernel
theorem dL_law__620 : decode cL_law_ 620 = .ok (.iload 4, 2) := by decide +kernel
theorem dL_law__622 : decode cL_law_ 622 = .ok (.iconst 1, 1) := by decide +kernel
theorem dL_law__623 : decode cL_law_ 623 = .ok (.iadd, 1) := by decide +kernel
theorem dL_law__624 : decode cL_law_ 624 = .ok (.iaload, 1) := by decide +kernel
theorem dL_law__625 : decode cL_law_ 625 = .ok (.aload_n 0, 1) := by decide +kernel
theorem dL_law__626 : decode cL_law_ 626 = .ok (.iload 4, 2) := by decide +kernel
theorem dL_law__628 : decode cL_law_ 628 = .ok (.iconst 2, 1) := by decide +kernel
theorem dL_law__629 : decode cL_law_ 629 = .ok (.iadd, 1) := by decide +kernel
theorem dL_law__630 : decode cL_law_ 630 = .ok (.iaload, 1) := by decide +kernel
theorem dL_law__631 : decode cL_law_ 631 = .ok (.invokevirtual 140, 3) := by decide +kernel
theorem dL_law__634 : decode cL_law_ 634 = .ok (.istore 6, 2) := by decide +kernel
theorem dL_law__636 : decode cL_law_ 636 = .ok (.aload_n 2, 1) := by decide +kernel
theorem dL_law__637 : decode cL_law_ 637 = .ok (.invokevirtual 117, 3) := by decide +kernel
theorem dL_law__640 : decode cL_law_ 640 = .ok (.iload 5, 2) := by decide +kernel
theorem dL_law__642 : decode cL_law_ 642 = .ok (.if_icmp .eq 5, 3) := by decide +kernel
theorem dL_law__645 : decode cL_law_ 645 = .ok (.iconst 0, 1) := by decide +kernel
theorem dL_law__646 : decode cL_law_ 646 = .ok (.ireturn, 1) := by decide +kernel
theorem dL_law__647 : decode cL_law_ 647 = .ok (.iload 5, 2) := by decide +kernel
theorem dL_law__649 : decode cL_law_ 649 = .ok (.ifCond .ne 15, 3) := by decide +kernel
theorem dL_law__652 : decode cL_law_ 652 = .ok (.aload_n 3, 1) := by decide +kernel
theorem dL_law__653 : decode cL_law_ 653 = .ok (.iconst 0, 1) := by decide +kernel
theorem dL_law__654 : decode cL_law_ 654 = .ok (.laload, 1) := by decide +kernel
theorem dL_law__655 : decode cL_law_ 655 = .ok (.iload 6, 2) := by decide +kernel
theorem dL_law__657 : decode cL_law_ 657 = .ok (.i2l, 1) := by decide +kernel
theorem dL_law__658 : decode cL_law_ 658 = .ok (.lcmp, 1) := by decide +kernel
theorem dL_law__659 : decode cL_law_ 659 = .ok (.ifCond .eq 5, 3) := by decide +kernel
theorem dL_law__662 : decode cL_law_ 662 = .ok (.iconst 0, 1) := by decide +kernel
theorem dL_law__663 : decode cL_law_ 663 = .ok (.ireturn, 1) := by decide +kernel
theorem dL_law__664 : decode cL_law_ 664 = .ok (.goto 1474, 3) := by decide +kernel
theorem dL_law__667 : decode cL_law_ 667 = .ok (.aload_n 1, 1) := by decide +kernel
theorem dL_law__668 : decode cL_law_ 668 = .ok (.aload_n 0, 1) := by decide +kernel
theorem dL_law__669 : decode cL_law_ 669 = .ok (.iload 4, 2) := by decide +kernel
theorem dL_law__671 : decode cL_law_ 671 = .ok (.iconst 1, 1) := by decide +kernel
theorem dL_law__672 : decode cL_law_ 672 = .ok (.iadd, 1) := by decide +kernel
theorem dL_law__673 : decode cL_law_ 673 = .ok (.iaload, 1) := by decide +kernel
theorem dL_law__674 : decode cL_law_ 674 = .ok (.aload_n 0, 1) := by decide +kernel
theorem dL_law__675 : decode cL_law_ 675 = .ok (.iload 4, 2) := by decide +kernel
theorem dL_law__677 : decode cL_law_ 677 = .ok (.iconst 2, 1) := by decide +kernel
theorem dL_law__678 : decode cL_law_ 678 = .ok (.iadd, 1) := by decide +kernel
theorem dL_law__679 : decode cL_law_ 679 = .ok (.iaload, 1) := by decide +kernel
theorem dL_law__680 : decode cL_law_ 680 = .ok (.aload_n 3, 1) := by decide +kernel
theorem dL_law__681 : decode cL_law_ 681 = .ok (.invokestatic 141, 3) := by decide +kernel
theorem dL_law__684 : decode cL_law_ 684 = .ok (.istore 5, 2) := by decide +kernel
theorem dL_law__686 : decode cL_law_ 686 = .ok (.aload_n 2, 1) := by decide +kernel
theorem dL_law__687 : decode cL_law_ 687 = .ok (.aload_n 0, 1) := by decide +kernel
theorem dL_law__688 : decode cL_law_ 688 = .ok (.iload 4, 2) := by decide +kernel
theorem dL_law__690 : decode cL_law_ 690 = .ok (.iconst 1, 1) := by decide +kernel
theorem dL_law__691 : decode cL_law_ 691 = .ok (.iadd, 1) := by decide +kernel
theorem dL_law__692 : decode cL_law_ 692 = .ok (.iaload, 1) := by decide +kernel
theorem dL_law__693 : decode cL_law_ 693 = .ok (.aload_n 0, 1) := by decide +kernel
theorem dL_law__694 : decode cL_law_ 694 = .ok (.iload 4, 2) := by decide +kernel
theorem dL_law__696 : decode cL_law_ 696 = .ok (.iconst 2, 1) := by decide +kernel
theorem dL_law__697 : decode cL_law_ 697 = .ok (.iadd, 1) := by decide +kernel
theorem dL_law__698 : decode cL_law_ 698 = .ok (.iaload, 1) := by decide +kernel
theorem dL_law__699 : decode cL_law_ 699 = .ok (.invokevirtual 143, 3) := by decide +kernel
theorem dL_law__702 : decode cL_law_ 702 = .ok (.istore 6, 2) := by decide +kernel
theorem dL_law__704 : decode cL_law_ 704 = .ok (.aload_n 2, 1) := by decide +kernel
theorem dL_law__705 : decode cL_law_ 705 = .ok (.invokevirtual 117, 3) := by decide +kernel
theorem dL_law__708 : decode cL_law_ 708 = .ok (.iload 5, 2) := by decide +kernel
theorem dL_law__710 : decode cL_law_ 710 = .ok (.if_icmp .eq 5, 3) := by decide +kernel
theorem dL_law__713 : decode cL_law_ 713 = .ok (.iconst 0, 1) := by decide +kernel
theorem dL_law__714 : decode cL_law_ 714 = .ok (.ireturn, 1) := by decide +kernel
theorem dL_law__715 : decode cL_law_ 715 = .ok (.iload 5, 2) := by decide +kernel
theorem dL_law__717 : decode cL_law_ 717 = .ok (.ifCond .ne 15, 3) := by decide +kernel
theorem dL_law__720 : decode cL_law_ 720 = .ok (.aload_n 3, 1) := by decide +kernel
theorem dL_law__721 : decode cL_law_ 721 = .ok (.iconst 0, 1) := by decide +kernel
theorem dL_law__722 : decode cL_law_ 722 = .ok (.laload, 1) := by decide +kernel
theorem dL_law__723 : decode cL_law_ 723 = .ok (.iload 6, 2) := by decide +kernel
theorem dL_law__725 : decode cL_law_ 725 = .ok (.i2l, 1) := by decide +kernel
theorem dL_law__726 : decode cL_law_ 726 = .ok (.lcmp, 1) := by decide +kernel
theorem dL_law__727 : decode cL_law_ 727 = .ok (.ifCond .eq 5, 3) := by decide +kernel
theorem dL_law__730 : decode cL_law_ 730 = .ok (.iconst 0, 1) := by decide +kernel
theorem dL_law__731 : decode cL_law_ 731 = .ok (.ireturn, 1) := by decide +kernel
theorem dL_law__732 : decode cL_law_ 732 = .ok (.goto 1406, 3) := by decide +kernel
theorem dL_law__735 : decode cL_law_ 735 = .ok (.aload_n 1, 1) := by decide +kernel
theorem dL_law__736 : decode cL_law_ 736 = .ok (.aload_n 0, 1) := by decide +kernel
theorem dL_law__737 : decode cL_law_ 737 = .ok (.iload 4, 2) := by decide +kernel
theorem dL_law__739 : decode cL_law_ 739 = .ok (.iconst 1, 1) := by decide +kernel
theorem dL_law__740 : decode cL_law_ 740 = .ok (.iadd, 1) := by decide +kernel
theorem dL_law__741 : decode cL_law_ 741 = .ok (.iaload, 1) := by decide +kernel
theorem dL_law__742 : decode cL_law_ 742 = .ok (.aload_n 0, 1) := by decide +kernel
theorem dL_law__743 : decode cL_law_ 743 = .ok (.iload 4, 2) := by decide +kernel
theorem dL_law__745 : decode cL_law_ 745 = .ok (.iconst 2, 1) := by decide +kernel
theorem dL_law__746 : decode cL_law_ 746 = .ok (.iadd, 1) := by decide +kernel
theorem dL_law__747 : decode cL_law_ 747 = .ok (.iaload, 1) := by decide +kernel
theorem dL_law__748 : decode cL_law_ 748 = .ok (.aload_n 3, 1) := by decide +kernel
theorem dL_law__749 : decode cL_law_ 749 = .ok (.invokestatic 144, 3) := by decide +kernel
theorem dL_law__752 : decode cL_law_ 752 = .ok (.istore 5, 2) := by decide +kernel
theorem dL_law__754 : decode cL_law_ 754 = .ok (.aload_n 2, 1) := by decide +kernel
theorem dL_law__755 : decode cL_law_ 755 = .ok (.aload_n 0, 1) := by decide +kernel
theorem dL_law__756 : decode cL_law_ 756 = .ok (.iload 4, 2) := by decide +kernel
theorem dL_law__758 : decode cL_law_ 758 = .ok (.iconst 1, 1) := by decide +kernel
theorem dL_law__759 : decode cL_law_ 759 = .ok (.iadd, 1) := by decide +kernel
theorem dL_law__760 : decode cL_law_ 760 = .ok (.iaload, 1) := by decide +kernel
theorem dL_law__761 : decode cL_law_ 761 = .ok (.aload_n 0, 1) := by decide +kernel
theorem dL_law__762 : decode cL_law_ 762 = .ok (.iload 4, 2) := by decide +kernel
theorem dL_law__764 : decode cL_law_ 764 = .ok (.iconst 2, 1) := by decide +kernel
theorem dL_law__765 : decode cL_law_ 765 = .ok (.iadd, 1) := by decide +kernel
theorem dL_law__766 : decode cL_law_ 766 = .ok (.iaload, 1) := by decide +kernel
theorem dL_law__767 : decode cL_law_ 767 = .ok (.invokevirtual 146, 3) := by decide +kernel
theorem dL_law__770 : decode cL_law_ 770 = .ok (.istore 6, 2) := by decide +kernel
theorem dL_law__772 : decode cL_law_ 772 = .ok (.aload_n 2, 1) := by decide +kernel
theorem dL_law__773 : decode cL_law_ 773 = .ok (.invokevirtual 117, 3) := by decide +kernel
theorem dL_law__776 : decode cL_law_ 776 = .ok (.iload 5, 2) := by decide +kernel
theorem dL_law__778 : decode cL_law_ 778 = .ok (.if_icmp .eq 5, 3) := by decide +kernel
theorem dL_law__781 : decode cL_law_ 781 = .ok (.iconst 0, 1) := by decide +kernel
theorem dL_law__782 : decode cL_law_ 782 = .ok (.ireturn, 1) := by decide +kernel
theorem dL_law__783 : decode cL_law_ 783 = .ok (.iload 5, 2) := by decide +kernel
theorem dL_law__785 : decode cL_law_ 785 = .ok (.ifCond .ne 15, 3) := by decide +kernel
theorem dL_law__788 : decode cL_law_ 788 = .ok (.aload_n 3, 1) := by decide +kernel
theorem dL_law__789 : decode cL_law_ 789 = .ok (.iconst 0, 1) := by decide +kernel
theorem dL_law__790 : decode cL_law_ 790 = .ok (.laload, 1) := by decide +kernel
theorem dL_law__791 : decode cL_law_ 791 = .ok (.iload 6, 2) := by decide +kernel
theorem dL_law__793 : decode cL_law_ 793 = .ok (.i2l, 1) := by decide +kernel
theorem dL_law__794 : decode cL_law_ 794 = .ok (.lcmp, 1) := by decide +kernel
theorem dL_law__795 : decode cL_law_ 795 = .ok (.ifCond .eq 5, 3) := by decide +kernel
theorem dL_law__798 : decode cL_law_ 798 = .ok (.iconst 0, 1) := by decide +kernel
theorem dL_law__799 : decode cL_law_ 799 = .ok (.ireturn, 1) := by decide +kernel
theorem dL_law__800 : decode cL_law_ 800 = .ok (.goto 1338, 3) := by decide +kernel
theorem dL_law__803 : decode cL_law_ 803 = .ok (.aload_n 1, 1) := by decide +kernel
theorem dL_law__804 : decode cL_law_ 804 = .ok (.aload_n 0, 1) := by decide +kernel
theorem dL_law__805 : decode cL_law_ 805 = .ok (.iload 4, 2) := by decide +kernel
theorem dL_law__807 : decode cL_law_ 807 = .ok (.iconst 1, 1) := by decide +kernel
theorem dL_law__808 : decode cL_law_ 808 = .ok (.iadd, 1) := by decide +kernel
theorem dL_law__809 : decode cL_law_ 809 = .ok (.iaload, 1) := by decide +kernel
theorem dL_law__810 : decode cL_law_ 810 = .ok (.aload_n 3, 1) := by decide +kernel
theorem dL_law__811 : decode cL_law_ 811 = .ok (.invokestatic 147, 3) := by decide +kernel
theorem dL_law__814 : decode cL_law_ 814 = .ok (.istore 5, 2) := by decide +kernel
theorem dL_law__816 : decode cL_law_ 816 = .ok (.aload_n 2, 1) := by decide +kernel
theorem dL_law__817 : decode cL_law_ 817 = .ok (.aload_n 0, 1) := by decide +kernel
theorem dL_law__818 : decode cL_law_ 818 = .ok (.iload 4, 2) := by decide +kernel
theorem dL_law__820 : decode cL_law_ 820 = .ok (.iconst 1, 1) := by decide +kernel
theorem dL_law__821 : decode cL_law_ 821 = .ok (.iadd, 1) := by decide +kernel
theorem dL_law__822 : decode cL_law_ 822 = .ok (.iaload, 1) := by decide +kernel
theorem dL_law__823 : decode cL_law_ 823 = .ok (.invokevirtual 149, 3) := by decide +kernel
theorem dL_law__826 : decode cL_law_ 826 = .ok (.istore 6, 2) := by decide +kernel
theorem dL_law__828 : decode cL_law_ 828 = .ok (.aload_n 2, 1) := by decide +kernel
theorem dL_law__829 : decode cL_law_ 829 = .ok (.invokevirtual 117, 3) := by decide +kernel
theorem dL_law__832 : decode cL_law_ 832 = .ok (.iload 5, 2) := by decide +kernel
theorem dL_law__834 : decode cL_law_ 834 = .ok (.if_icmp .eq 5, 3) := by decide +kernel
theorem dL_law__837 : decode cL_law_ 837 = .ok (.iconst 0, 1) := by decide +kernel
theorem dL_law__838 : decode cL_law_ 838 = .ok (.ireturn, 1) := by decide +kernel
theorem dL_law__839 : decode cL_law_ 839 = .ok (.iload 5, 2) := by decide +kernel
theorem dL_law__841 : decode cL_law_ 841 = .ok (.ifCond .ne 15, 3) := by decide +kernel
theorem dL_law__844 : decode cL_law_ 844 = .ok (.aload_n 3, 1) := by decide +kernel
theorem dL_law__845 : decode cL_law_ 845 = .ok (.iconst 0, 1) := by decide +kernel
theorem dL_law__846 : decode cL_law_ 846 = .ok (.laload, 1) := by decide +kernel
theorem dL_law__847 : decode cL_law_ 847 = .ok (.iload 6, 2) := by decide +kernel
theorem dL_law__849 : decode cL_law_ 849 = .ok (.i2l, 1) := by decide +kernel
theorem dL_law__850 : decode cL_law_ 850 = .ok (.lcmp, 1) := by decide +kernel
theorem dL_law__851 : decode cL_law_ 851 = .ok (.ifCond .eq 5, 3) := by decide +kernel
theorem dL_law__854 : decode cL_law_ 854 = .ok (.iconst 0, 1) := by decide +kernel
theorem dL_law__855 : decode cL_law_ 855 = .ok (.ireturn, 1) := by decide +kernel
theorem dL_law__856 : decode cL_law_ 856 = .ok (.goto 1282, 3) := by decide +kernel
theorem dL_law__859 : decode cL_law_ 859 = .ok (.aload_n 1, 1) := by decide +kernel
theorem dL_law__860 : decode cL_law_ 860 = .ok (.aload_n 0, 1) := by decide +kernel
theorem dL_law__861 : decode cL_law_ 861 = .ok (.iload 4, 2) := by decide +kernel
theorem dL_law__863 : decode cL_law_ 863 = .ok (.iconst 1, 1) := by decide +kernel
theorem dL_law__864 : decode cL_law_ 864 = .ok (.iadd, 1) := by decide +kernel
theorem dL_law__865 : decode cL_law_ 865 = .ok (.iaload, 1) := by decide +kernel
theorem dL_law__866 : decode cL_law_ 866 = .ok (.aload_n 3, 1) := by decide +kernel
theorem dL_law__867 : decode cL_law_ 867 = .ok (.invokestatic 150, 3) := by decide +kernel
theorem dL_law__870 : decode cL_law_ 870 = .ok (.istore 5, 2) := by decide +kernel
theorem dL_law__872 : decode cL_law_ 872 = .ok (.aload_n 2, 1) := by decide +kernel
theorem dL_law__873 : decode cL_law_ 873 = .ok (.aload_n 0, 1) := by decide +kernel
theorem dL_law__874 : decode cL_law_ 874 = .ok (.iload 4, 2) := by decide +kernel
theorem dL_law__876 : decode cL_law_ 876 = .ok (.iconst 1, 1) := by decide +kernel
theorem dL_law__877 : decode cL_law_ 877 = .ok (.iadd, 1) := by decide +kernel
theorem dL_law__878 : decode cL_law_ 878 = .ok (.iaload, 1) := by decide +kernel
theorem dL_law__879 : decode cL_law_ 879 = .ok (.invokevirtual 152, 3) := by decide +kernel
theorem dL_law__882 : decode cL_law_ 882 = .ok (.istore 6, 2) := by decide +kernel
theorem dL_law__884 : decode cL_law_ 884 = .ok (.aload_n 2, 1) := by decide +kernel
theorem dL_law__885 : decode cL_law_ 885 = .ok (.invokevirtual 117, 3) := by decide +kernel
theorem dL_law__888 : decode cL_law_ 888 = .ok (.iload 5, 2) := by decide +kernel
theorem dL_law__890 : decode cL_law_ 890 = .ok (.if_icmp .eq 5, 3) := by decide +kernel
theorem dL_law__893 : decode cL_law_ 893 = .ok (.iconst 0, 1) := by decide +kernel
theorem dL_law__894 : decode cL_law_ 894 = .ok (.ireturn, 1) := by decide +kernel
theorem dL_law__895 : decode cL_law_ 895 = .ok (.iload 5, 2) := by decide +kernel
theorem dL_law__897 : decode cL_law_ 897 = .ok (.ifCond .ne 15, 3) := by decide +kernel
theorem dL_law__900 : decode cL_law_ 900 = .ok (.aload_n 3, 1) := by decide +kernel
theorem dL_law__901 : decode cL_law_ 901 = .ok (.iconst 0, 1) := by decide +kernel
theorem dL_law__902 : decode cL_law_ 902 = .ok (.laload, 1) := by decide +kernel
theorem dL_law__903 : decode cL_law_ 903 = .ok (.iload 6, 2) := by decide +kernel
theorem dL_law__905 : decode cL_law_ 905 = .ok (.i2l, 1) := by decide +kernel
theorem dL_law__906 : decode cL_law_ 906 = .ok (.lcmp, 1) := by decide +kernel
theorem dL_law__907 : decode cL_law_ 907 = .ok (.ifCond .eq 5, 3) := by decide +kernel
theorem dL_law__910 : decode cL_law_ 910 = .ok (.iconst 0, 1) := by decide +kernel
theorem dL_law__911 : decode cL_law_ 911 = .ok (.ireturn, 1) := by decide +kernel
theorem dL_law__912 : decode cL_law_ 912 = .ok (.goto 1226, 3) := by decide +kernel
theorem dL_law__915 : decode cL_law_ 915 = .ok (.aload_n 1, 1) := by decide +kernel
theorem dL_law__916 : decode cL_law_ 916 = .ok (.invokevirtual 153, 3) := by decide +kernel
theorem dL_law__919 : decode cL_law_ 919 = .ok (.aload_n 2, 1) := by decide +kernel
theorem dL_law__920 : decode cL_law_ 920 = .ok (.invokevirtual 156, 3) := by decide +kernel
theorem dL_law__923 : decode cL_law_ 923 = .ok (.if_icmp .eq 1215, 3) := by decide +kernel
theorem dL_law__926 : decode cL_law_ 926 = .ok (.iconst 0, 1) := by decide +kernel
theorem dL_law__927 : decode cL_law_ 927 = .ok (.ireturn, 1) := by decide +kernel
theorem dL_law__928 : decode cL_law_ 928 = .ok (.aload_n 1, 1) := by decide +kernel
theorem dL_law__929 : decode cL_law_ 929 = .ok (.aload_n 0, 1) := by decide +kernel
theorem dL_law__930 : decode cL_law_ 930 = .ok (.iload 4, 2) := by decide +kernel
theorem dL_law__932 : decode cL_law_ 932 = .ok (.iconst 1, 1) := by decide +kernel
theorem dL_law__933 : decode cL_law_ 933 = .ok (.iadd, 1) := by decide +kernel
theorem dL_law__934 : decode cL_law_ 934 = .ok (.iaload, 1) := by decide +kernel
theorem dL_law__935 : decode cL_law_ 935 = .ok (.aload_n 0, 1) := by decide +kernel
theorem dL_law__936 : decode cL_law_ 936 = .ok (.iload 4, 2) := by decide +kernel
theorem dL_law__938 : decode cL_law_ 938 = .ok (.iconst 2, 1) := by decide +kernel
theorem dL_law__939 : decode cL_law_ 939 = .ok (.iadd, 1) := by decide +kernel
theorem dL_law__940 : decode cL_law_ 940 = .ok (.iaload, 1) := by decide +kernel
theorem dL_law__941 : decode cL_law_ 941 = .ok (.aload_n 3, 1) := by decide +kernel
theorem dL_law__942 : decode cL_law_ 942 = .ok (.invokestatic 157, 3) := by decide +kernel
theorem dL_law__945 : decode cL_law_ 945 = .ok (.istore 5, 2) := by decide +kernel
theorem dL_law__947 : decode cL_law_ 947 = .ok (.aload_n 2, 1) := by decide +kernel
theorem dL_law__948 : decode cL_law_ 948 = .ok (.aload_n 0, 1) := by decide +kernel
theorem dL_law__949 : decode cL_law_ 949 = .ok (.iload 4, 2) := by decide +kernel
theorem dL_law__951 : decode cL_law_ 951 = .ok (.iconst 1, 1) := by decide +kernel
theorem dL_law__952 : decode cL_law_ 952 = .ok (.iadd, 1) := by decide +kernel
theorem dL_law__953 : decode cL_law_ 953 = .ok (.iaload, 1) := by decide +kernel
theorem dL_law__954 : decode cL_law_ 954 = .ok (.aload_n 0, 1) := by decide +kernel
theorem dL_law__955 : decode cL_law_ 955 = .ok (.iload 4, 2) := by decide +kernel
theorem dL_law__957 : decode cL_law_ 957 = .ok (.iconst 2, 1) := by decide +kernel
theorem dL_law__958 : decode cL_law_ 958 = .ok (.iadd, 1) := by decide +kernel
theorem dL_law__959 : decode cL_law_ 959 = .ok (.iaload, 1) := by decide +kernel
theorem dL_law__960 : decode cL_law_ 960 = .ok (.invokevirtual 159, 3) := by decide +kernel
theorem dL_law__963 : decode cL_law_ 963 = .ok (.istore 6, 2) := by decide +kernel
theorem dL_law__965 : decode cL_law_ 965 = .ok (.aload_n 2, 1) := by decide +kernel
theorem dL_law__966 : decode cL_law_ 966 = .ok (.invokevirtual 117, 3) := by decide +kernel
theorem dL_law__969 : decode cL_law_ 969 = .ok (.iload 5, 2) := by decide +kernel
theorem dL_law__971 : decode cL_law_ 971 = .ok (.if_icmp .eq 5, 3) := by decide +kernel
theorem dL_law__974 : decode cL_law_ 974 = .ok (.iconst 0, 1) := by decide +kernel
theorem dL_law__975 : decode cL_law_ 975 = .ok (.ireturn, 1) := by decide +kernel
theorem dL_law__976 : decode cL_law_ 976 = .ok (.iload 5, 2) := by decide +kernel
theorem dL_law__978 : decode cL_law_ 978 = .ok (.ifCond .ne 15, 3) := by decide +kernel
theorem dL_law__981 : decode cL_law_ 981 = .ok (.aload_n 3, 1) := by decide +kernel
theorem dL_law__982 : decode cL_law_ 982 = .ok (.iconst 0, 1) := by decide +kernel
theorem dL_law__983 : decode cL_law_ 983 = .ok (.laload, 1) := by decide +kernel
theorem dL_law__984 : decode cL_law_ 984 = .ok (.iload 6, 2) := by decide +kernel
theorem dL_law__986 : decode cL_law_ 986 = .ok (.i2l, 1) := by decide +kernel
theorem dL_law__987 : decode cL_law_ 987 = .ok (.lcmp, 1) := by decide +kernel
theorem dL_law__988 : decode cL_law_ 988 = .ok (.ifCond .eq 5, 3) := by decide +kernel
theorem dL_law__991 : decode cL_law_ 991 = .ok (.iconst 0, 1) := by decide +kernel
theorem dL_law__992 : decode cL_law_ 992 = .ok (.ireturn, 1) := by decide +kernel
theorem dL_law__993 : decode cL_law_ 993 = .ok (.goto 1145, 3) := by decide +kernel
theorem dL_law__996 : decode cL_law_ 996 = .ok (.aload_n 1, 1) := by decide +kernel
theorem dL_law__997 : decode cL_law_ 997 = .ok (.aload_n 0, 1) := by decide +kernel
theorem dL_law__998 : decode cL_law_ 998 = .ok (.iload 4, 2) := by decide +kernel
theorem dL_law__1000 : decode cL_law_ 1000 = .ok (.iconst 1, 1) := by decide +kernel
theorem dL_law__1001 : decode cL_law_ 1001 = .ok (.iadd, 1) := by decide +kernel
theorem dL_law__1002 : decode cL_law_ 1002 = .ok (.iaload, 1) := by decide +kernel
theorem dL_law__1003 : decode cL_law_ 1003 = .ok (.aload_n 3, 1) := by decide +kernel
theorem dL_law__1004 : decode cL_law_ 1004 = .ok (.invokestatic 160, 3) := by decide +kernel
theorem dL_law__1007 : decode cL_law_ 1007 = .ok (.istore 5, 2) := by decide +kernel
theorem dL_law__1009 : decode cL_law_ 1009 = .ok (.aload_n 2, 1) := by decide +kernel
theorem dL_law__1010 : decode cL_law_ 1010 = .ok (.aload_n 0, 1) := by decide +kernel
theorem dL_law__1011 : decode cL_law_ 1011 = .ok (.iload 4, 2) := by decide +kernel
theorem dL_law__1013 : decode cL_law_ 1013 = .ok (.iconst 1, 1) := by decide +kernel
theorem dL_law__1014 : decode cL_law_ 1014 = .ok (.iadd, 1) := by decide +kernel
theorem dL_law__1015 : decode cL_law_ 1015 = .ok (.iaload, 1) := by decide +kernel
theorem dL_law__1016 : decode cL_law_ 1016 = .ok (.invokevirtual 162, 3) := by decide +kernel
theorem dL_law__1019 : decode cL_law_ 1019 = .ok (.istore 6, 2) := by decide +kernel
theorem dL_law__1021 : decode cL_law_ 1021 = .ok (.aload_n 2, 1) := by decide +kernel
theorem dL_law__1022 : decode cL_law_ 1022 = .ok (.invokevirtual 117, 3) := by decide +kernel
theorem dL_law__1025 : decode cL_law_ 1025 = .ok (.iload 5, 2) := by decide +kernel
theorem dL_law__1027 : decode cL_law_ 1027 = .ok (.if_icmp .eq 5, 3) := by decide +kernel
theorem dL_law__1030 : decode cL_law_ 1030 = .ok (.iconst 0, 1) := by decide +kernel
theorem dL_law__1031 : decode cL_law_ 1031 = .ok (.ireturn, 1) := by decide +kernel
theorem dL_law__1032 : decode cL_law_ 1032 = .ok (.iload 5, 2) := by decide +kernel
theorem dL_law__1034 : decode cL_law_ 1034 = .ok (.ifCond .ne 15, 3) := by decide +kernel
theorem dL_law__1037 : decode cL_law_ 1037 = .ok (.aload_n 3, 1) := by decide +kernel
theorem dL_law__1038 : decode cL_law_ 1038 = .ok (.iconst 0, 1) := by decide +kernel
theorem dL_law__1039 : decode cL_law_ 1039 = .ok (.laload, 1) := by decide +kernel
theorem dL_law__1040 : decode cL_law_ 1040 = .ok (.iload 6, 2) := by decide +kernel
theorem dL_law__1042 : decode cL_law_ 1042 = .ok (.i2l, 1) := by decide +kernel
theorem dL_law__1043 : decode cL_law_ 1043 = .ok (.lcmp, 1) := by decide +kernel
theorem dL_law__1044 : decode cL_law_ 1044 = .ok (.ifCond .eq 5, 3) := by decide +kernel
theorem dL_law__1047 : decode cL_law_ 1047 = .ok (.iconst 0, 1) := by decide +kernel
theorem dL_law__1048 : decode cL_law_ 1048 = .ok (.ireturn, 1) := by decide +kernel
theorem dL_law__1049 : decode cL_law_ 1049 = .ok (.goto 1089, 3) := by decide +kernel
theorem dL_law__1052 : decode cL_law_ 1052 = .ok (.aload_n 1, 1) := by decide +kernel
theorem dL_law__1053 : decode cL_law_ 1053 = .ok (.aload_n 0, 1) := by decide +kernel
theorem dL_law__1054 : decode cL_law_ 1054 = .ok (.iload 4, 2) := by decide +kernel
theorem dL_law__1056 : decode cL_law_ 1056 = .ok (.iconst 1, 1) := by decide +kernel
theorem dL_law__1057 : decode cL_law_ 1057 = .ok (.iadd, 1) := by decide +kernel
theorem dL_law__1058 : decode cL_law_ 1058 = .ok (.iaload, 1) := by decide +kernel
theorem dL_law__1059 : decode cL_law_ 1059 = .ok (.aload_n 0, 1) := by decide +kernel
theorem dL_law__1060 : decode cL_law_ 1060 = .ok (.iload 4, 2) := by decide +kernel
theorem dL_law__1062 : decode cL_law_ 1062 = .ok (.iconst 2, 1) := by decide +kernel
theorem dL_law__1063 : decode cL_law_ 1063 = .ok (.iadd, 1) := by decide +kernel
theorem dL_law__1064 : decode cL_law_ 1064 = .ok (.iaload, 1) := by decide +kernel
theorem dL_law__1065 : decode cL_law_ 1065 = .ok (.ifCond .eq 7, 3) := by decide +kernel
theorem dL_law__1068 : decode cL_law_ 1068 = .ok (.iconst 1, 1) := by decide +kernel
theorem dL_law__1069 : decode cL_law_ 1069 = .ok (.goto 4, 3) := by decide +kernel
theorem dL_law__1072 : decode cL_law_ 1072 = .ok (.iconst 0, 1) := by decide +kernel
theorem dL_law__1073 : decode cL_law_ 1073 = .ok (.aload_n 3, 1) := by decide +kernel
theorem dL_law__1074 : decode cL_law_ 1074 = .ok (.invokestatic 163, 3) := by decide +kernel
theorem dL_law__1077 : decode cL_law_ 1077 = .ok (.istore 5, 2) := by decide +kernel
theorem dL_law__1079 : decode cL_law_ 1079 = .ok (.aload_n 2, 1) := by decide +kernel
theorem dL_law__1080 : decode cL_law_ 1080 = .ok (.aload_n 0, 1) := by decide +kernel
theorem dL_law__1081 : decode cL_law_ 1081 = .ok (.iload 4, 2) := by decide +kernel
theorem dL_law__1083 : decode cL_law_ 1083 = .ok (.iconst 1, 1) := by decide +kernel
theorem dL_law__1084 : decode cL_law_ 1084 = .ok (.iadd, 1) := by decide +kernel
theorem dL_law__1085 : decode cL_law_ 1085 = .ok (.iaload, 1) := by decide +kernel
theorem dL_law__1086 : decode cL_law_ 1086 = .ok (.aload_n 0, 1) := by decide +kernel
theorem dL_law__1087 : decode cL_law_ 1087 = .ok (.iload 4, 2) := by decide +kernel
theorem dL_law__1089 : decode cL_law_ 1089 = .ok (.iconst 2, 1) := by decide +kernel
theorem dL_law__1090 : decode cL_law_ 1090 = .ok (.iadd, 1) := by decide +kernel
theorem dL_law__1091 : decode cL_law_ 1091 = .ok (.iaload, 1) := by decide +kernel
theorem dL_law__1092 : decode cL_law_ 1092 = .ok (.ifCond .eq 7, 3) := by decide +kernel
theorem dL_law__1095 : decode cL_law_ 1095 = .ok (.iconst 1, 1) := by decide +kernel
theorem dL_law__1096 : decode cL_law_ 1096 = .ok (.goto 4, 3) := by decide +kernel
theorem dL_law__1099 : decode cL_law_ 1099 = .ok (.iconst 0, 1) := by decide +kernel
theorem dL_law__1100 : decode cL_law_ 1100 = .ok (.invokevirtual 166, 3) := by decide +kernel
theorem dL_law__1103 : decode cL_law_ 1103 = .ok (.istore 6, 2) := by decide +kernel
theorem dL_law__1105 : decode cL_law_ 1105 = .ok (.aload_n 2, 1) := by decide +kernel
theorem dL_law__1106 : decode cL_law_ 1106 = .ok (.invokevirtual 117, 3) := by decide +kernel
theorem dL_law__1109 : decode cL_law_ 1109 = .ok (.iload 5, 2) := by decide +kernel
theorem dL_law__1111 : decode cL_law_ 1111 = .ok (.if_icmp .eq 5, 3) := by decide +kernel
theorem dL_law__1114 : decode cL_law_ 1114 = .ok (.iconst 0, 1) := by decide +kernel
theorem dL_law__1115 : decode cL_law_ 1115 = .ok (.ireturn, 1) := by decide +kernel
theorem dL_law__1116 : decode cL_law_ 1116 = .ok (.iload 5, 2) := by decide +kernel
theorem dL_law__1118 : decode cL_law_ 1118 = .ok (.ifCond .ne 22, 3) := by decide +kernel
theorem dL_law__1121 : decode cL_law_ 1121 = .ok (.aload_n 3, 1) := by decide +kernel
theorem dL_law__1122 : decode cL_law_ 1122 = .ok (.iconst 0, 1) := by decide +kernel
theorem dL_law__1123 : decode cL_law_ 1123 = .ok (.laload, 1) := by decide +kernel
theorem dL_law__1124 : decode cL_law_ 1124 = .ok (.iload 6, 2) := by decide +kernel
theorem dL_law__1126 : decode cL_law_ 1126 = .ok (.ifCond .eq 7, 3) := by decide +kernel
theorem dL_law__1129 : decode cL_law_ 1129 = .ok (.lconst 1, 1) := by decide +kernel
theorem dL_law__1130 : decode cL_law_ 1130 = .ok (.goto 4, 3) := by decide +kernel
theorem dL_law__1133 : decode cL_law_ 1133 = .ok (.lconst 0, 1) := by decide +kernel
theorem dL_law__1134 : decode cL_law_ 1134 = .ok (.lcmp, 1) := by decide +kernel
theorem dL_law__1135 : decode cL_law_ 1135 = .ok (.ifCond .eq 5, 3) := by decide +kernel
theorem dL_law__1138 : decode cL_law_ 1138 = .ok (.iconst 0, 1) := by decide +kernel
theorem dL_law__1139 : decode cL_law_ 1139 = .ok (.ireturn, 1) := by decide +kernel
theorem dL_law__1140 : decode cL_law_ 1140 = .ok (.goto 998, 3) := by decide +kernel
theorem dL_law__1143 : decode cL_law_ 1143 = .ok (.aload_n 1, 1) := by decide +kernel
theorem dL_law__1144 : decode cL_law_ 1144 = .ok (.aload_n 0, 1) := by decide +kernel
theorem dL_law__1145 : decode cL_law_ 1145 = .ok (.iload 4, 2) := by decide +kernel
theorem dL_law__1147 : decode cL_law_ 1147 = .ok (.iconst 1, 1) := by decide +kernel
theorem dL_law__1148 : decode cL_law_ 1148 = .ok (.iadd, 1) := by decide +kernel
theorem dL_law__1149 : decode cL_law_ 1149 = .ok (.iaload, 1) := by decide +kernel
theorem dL_law__1150 : decode cL_law_ 1150 = .ok (.invokevirtual 167, 3) := by decide +kernel
theorem dL_law__1153 : decode cL_law_ 1153 = .ok (.aload_n 2, 1) := by decide +kernel
theorem dL_law__1154 : decode cL_law_ 1154 = .ok (.aload_n 0, 1) := by decide +kernel
theorem dL_law__1155 : decode cL_law_ 1155 = .ok (.iload 4, 2) := by decide +kernel
theorem dL_law__1157 : decode cL_law_ 1157 = .ok (.iconst 1, 1) := by decide +kernel
theorem dL_law__1158 : decode cL_law_ 1158 = .ok (.iadd, 1) := by decide +kernel
theorem dL_law__1159 : decode cL_law_ 1159 = .ok (.iaload, 1) := by decide +kernel
theorem dL_law__1160 : decode cL_law_ 1160 = .ok (.invokevirtual 170, 3) := by decide +kernel
theorem dL_law__1163 : decode cL_law_ 1163 = .ok (.if_icmp .eq 975, 3) := by decide +kernel
theorem dL_law__1166 : decode cL_law_ 1166 = .ok (.iconst 0, 1) := by decide +kernel
theorem dL_law__1167 : decode cL_law_ 1167 = .ok (.ireturn, 1) := by decide +kernel
theorem dL_law__1168 : decode cL_law_ 1168 = .ok (.aload_n 1, 1) := by decide +kernel
theorem dL_law__1169 : decode cL_law_ 1169 = .ok (.aload_n 0, 1) := by decide +kernel
theorem dL_law__1170 : decode cL_law_ 1170 = .ok (.iload 4, 2) := by decide +kernel
theorem dL_law__1172 : decode cL_law_ 1172 = .ok (.iconst 1, 1) := by decide +kernel
theorem dL_law__1173 : decode cL_law_ 1173 = .ok (.iadd, 1) := by decide +kernel
theorem dL_law__1174 : decode cL_law_ 1174 = .ok (.iaload, 1) := by decide +kernel
theorem dL_law__1175 : decode cL_law_ 1175 = .ok (.aload_n 0, 1) := by decide +kernel
theorem dL_law__1176 : decode cL_law_ 1176 = .ok (.iload 4, 2) := by decide +kernel
theorem dL_law__1178 : decode cL_law_ 1178 = .ok (.iconst 2, 1) := by decide +kernel
theorem dL_law__1179 : decode cL_law_ 1179 = .ok (.iadd, 1) := by decide +kernel
theorem dL_law__1180 : decode cL_law_ 1180 = .ok (.iaload, 1) := by decide +kernel
theorem dL_law__1181 : decode cL_law_ 1181 = .ok (.aload_n 0, 1) := by decide +kernel
theorem dL_law__1182 : decode cL_law_ 1182 = .ok (.iload 4, 2) := by decide +kernel
theorem dL_law__1184 : decode cL_law_ 1184 = .ok (.iconst 3, 1) := by decide +kernel
theorem dL_law__1185 : decode cL_law_ 1185 = .ok (.iadd, 1) := by decide +kernel
theorem dL_law__1186 : decode cL_law_ 1186 = .ok (.iaload, 1) := by decide +kernel
theorem dL_law__1187 : decode cL_law_ 1187 = .ok (.aload_n 3, 1) := by decide +kernel
theorem dL_law__1188 : decode cL_law_ 1188 = .ok (.invokestatic 171, 3) := by decide +kernel
theorem dL_law__1191 : decode cL_law_ 1191 = .ok (.istore 5, 2) := by decide +kernel
theorem dL_law__1193 : decode cL_law_ 1193 = .ok (.aload_n 2, 1) := by decide +kernel
theorem dL_law__1194 : decode cL_law_ 1194 = .ok (.aload_n 0, 1) := by decide +kernel
theorem dL_law__1195 : decode cL_law_ 1195 = .ok (.iload 4, 2) := by decide +kernel
theorem dL_law__1197 : decode cL_law_ 1197 = .ok (.iconst 1, 1) := by decide +kernel
theorem dL_law__1198 : decode cL_law_ 1198 = .ok (.iadd, 1) := by decide +kernel
theorem dL_law__1199 : decode cL_law_ 1199 = .ok (.iaload, 1) := by decide +kernel
theorem dL_law__1200 : decode cL_law_ 1200 = .ok (.aload_n 0, 1) := by decide +kernel
theorem dL_law__1201 : decode cL_law_ 1201 = .ok (.iload 4, 2) := by decide +kernel
theorem dL_law__1203 : decode cL_law_ 1203 = .ok (.iconst 2, 1) := by decide +kernel
theorem dL_law__1204 : decode cL_law_ 1204 = .ok (.iadd, 1) := by decide +kernel
theorem dL_law__1205 : decode cL_law_ 1205 = .ok (.iaload, 1) := by decide +kernel
theorem dL_law__1206 : decode cL_law_ 1206 = .ok (.aload_n 0, 1) := by decide +kernel
theorem dL_law__1207 : decode cL_law_ 1207 = .ok (.iload 4, 2) := by decide +kernel
theorem dL_law__1209 : decode cL_law_ 1209 = .ok (.iconst 3, 1) := by decide +kernel
theorem dL_law__1210 : decode cL_law_ 1210 = .ok (.iadd, 1) := by decide +kernel
theorem dL_law__1211 : decode cL_law_ 1211 = .ok (.iaload, 1) := by decide +kernel
theorem dL_law__1212 : decode cL_law_ 1212 = .ok (.invokevirtual 174, 3) := by decide +kernel
theorem dL_law__1215 : decode cL_law_ 1215 = .ok (.istore 6, 2) := by decide +kernel
theorem dL_law__1217 : decode cL_law_ 1217 = .ok (.aload_n 2, 1) := by decide +kernel
theorem dL_law__1218 : decode cL_law_ 1218 = .ok (.invokevirtual 117, 3) := by decide +kernel
theorem dL_law__1221 : decode cL_law_ 1221 = .ok (.iload 5, 2) := by decide +kernel
theorem dL_law__1223 : decode cL_law_ 1223 = .ok (.if_icmp .eq 5, 3) := by decide +kernel
theorem dL_law__1226 : decode cL_law_ 1226 = .ok (.iconst 0, 1) := by decide +kernel
theorem dL_law__1227 : decode cL_law_ 1227 = .ok (.ireturn, 1) := by decide +kernel
theorem dL_law__1228 : decode cL_law_ 1228 = .ok (.iload 5, 2) := by decide +kernel
theorem dL_law__1230 : decode cL_law_ 1230 = .ok (.ifCond .ne 15, 3) := by decide +kernel
theorem dL_law__1233 : decode cL_law_ 1233 = .ok (.aload_n 3, 1) := by decide +kernel
theorem dL_law__1234 : decode cL_law_ 1234 = .ok (.iconst 0, 1) := by decide +kernel
theorem dL_law__1235 : decode cL_law_ 1235 = .ok (.laload, 1) := by decide +kernel
theorem dL_law__1236 : decode cL_law_ 1236 = .ok (.iload 6, 2) := by decide +kernel
theorem dL_law__1238 : decode cL_law_ 1238 = .ok (.i2l, 1) := by decide +kernel
theorem dL_law__1239 : decode cL_law_ 1239 = .ok (.lcmp, 1) := by decide +kernel
theorem dL_law__1240 : decode cL_law_ 1240 = .ok (.ifCond .eq 5, 3) := by decide +kernel
theorem dL_law__1243 : decode cL_law_ 1243 = .ok (.iconst 0, 1) := by decide +kernel
theorem dL_law__1244 : decode cL_law_ 1244 = .ok (.ireturn, 1) := by decide +kernel
theorem dL_law__1245 : decode cL_law_ 1245 = .ok (.goto 893, 3) := by decide +kernel
theorem dL_law__1248 : decode cL_law_ 1248 = .ok (.aload_n 1, 1) := by decide +kernel
theorem dL_law__1249 : decode cL_law_ 1249 = .ok (.invokevirtual 175, 3) := by decide +kernel
theorem dL_law__1252 : decode cL_law_ 1252 = .ok (.aload_n 2, 1) := by decide +kernel
theorem dL_law__1253 : decode cL_law_ 1253 = .ok (.invokevirtual 178, 3) := by decide +kernel
theorem dL_law__1256 : decode cL_law_ 1256 = .ok (.if_icmp .eq 882, 3) := by decide +kernel
theorem dL_law__1259 : decode cL_law_ 1259 = .ok (.iconst 0, 1) := by decide +kernel
theorem dL_law__1260 : decode cL_law_ 1260 = .ok (.ireturn, 1) := by decide +kernel
theorem dL_law__1261 : decode cL_law_ 1261 = .ok (.aload_n 1, 1) := by decide +kernel
theorem dL_law__1262 : decode cL_law_ 1262 = .ok (.invokevirtual 179, 3) := by decide +kernel
theorem dL_law__1265 : decode cL_law_ 1265 = .ok (.aload_n 2, 1) := by decide +kernel
theorem dL_law__1266 : decode cL_law_ 1266 = .ok (.invokevirtual 182, 3) := by decide +kernel
theorem dL_law__1269 : decode cL_law_ 1269 = .ok (.if_icmp .eq 869, 3) := by decide +kernel
theorem dL_law__1272 : decode cL_law_ 1272 = .ok (.iconst 0, 1) := by decide +kernel
theorem dL_law__1273 : decode cL_law_ 1273 = .ok (.ireturn, 1) := by decide +kernel
theorem dL_law__1274 : decode cL_law_ 1274 = .ok (.aload_n 1, 1) := by decide +kernel
theorem dL_law__1275 : decode cL_law_ 1275 = .ok (.aload_n 3, 1) := by decide +kernel
theorem dL_law__1276 : decode cL_law_ 1276 = .ok (.invokestatic 183, 3) := by decide +kernel
theorem dL_law__1279 : decode cL_law_ 1279 = .ok (.istore 5, 2) := by decide +kernel
theorem dL_law__1281 : decode cL_law_ 1281 = .ok (.aload_n 2, 1) := by decide +kernel
theorem dL_law__1282 : decode cL_law_ 1282 = .ok (.invokevirtual 185, 3) := by decide +kernel
theorem dL_law__1285 : decode cL_law_ 1285 = .ok (.istore 6, 2) := by decide +kernel
theorem dL_law__1287 : decode cL_law_ 1287 = .ok (.aload_n 2, 1) := by decide +kernel
theorem dL_law__1288 : decode cL_law_ 1288 = .ok (.invokevirtual 117, 3) := by decide +kernel
theorem dL_law__1291 : decode cL_law_ 1291 = .ok (.iload 5, 2) := by decide +kernel
theorem dL_law__1293 : decode cL_law_ 1293 = .ok (.if_icmp .eq 5, 3) := by decide +kernel
theorem dL_law__1296 : decode cL_law_ 1296 = .ok (.iconst 0, 1) := by decide +kernel
theorem dL_law__1297 : decode cL_law_ 1297 = .ok (.ireturn, 1) := by decide +kernel
theorem dL_law__1298 : decode cL_law_ 1298 = .ok (.iload 5, 2) := by decide +kernel
theorem dL_law__1300 : decode cL_law_ 1300 = .ok (.ifCond .ne 15, 3) := by decide +kernel
theorem dL_law__1303 : decode cL_law_ 1303 = .ok (.aload_n 3, 1) := by decide +kernel
theorem dL_law__1304 : decode cL_law_ 1304 = .ok (.iconst 0, 1) := by decide +kernel
theorem dL_law__1305 : decode cL_law_ 1305 = .ok (.laload, 1) := by decide +kernel
theorem dL_law__1306 : decode cL_law_ 1306 = .ok (.iload 6, 2) := by decide +kernel
theorem dL_law__1308 : decode cL_law_ 1308 = .ok (.i2l, 1) := by decide +kernel
theorem dL_law__1309 : decode cL_law_ 1309 = .ok (.lcmp, 1) := by decide +kernel
theorem dL_law__1310 : decode cL_law_ 1310 = .ok (.ifCond .eq 5, 3) := by decide +kernel
theorem dL_law__1313 : decode cL_law_ 1313 = .ok (.iconst 0, 1) := by decide +kernel
theorem dL_law__1314 : decode cL_law_ 1314 = .ok (.ireturn, 1) := by decide +kernel
theorem dL_law__1315 : decode cL_law_ 1315 = .ok (.goto 823, 3) := by decide +kernel
theorem dL_law__1318 : decode cL_law_ 1318 = .ok (.aload_n 1, 1) := by decide +kernel
theorem dL_law__1319 : decode cL_law_ 1319 = .ok (.aload_n 0, 1) := by decide +kernel
theorem dL_law__1320 : decode cL_law_ 1320 = .ok (.iload 4, 2) := by decide +kernel
theorem dL_law__1322 : decode cL_law_ 1322 = .ok (.iconst 1, 1) := by decide +kernel
theorem dL_law__1323 : decode cL_law_ 1323 = .ok (.iadd, 1) := by decide +kernel
theorem dL_law__1324 : decode cL_law_ 1324 = .ok (.iaload, 1) := by decide +kernel
theorem dL_law__1325 : decode cL_law_ 1325 = .ok (.aload_n 0, 1) := by decide +kernel
theorem dL_law__1326 : decode cL_law_ 1326 = .ok (.iload 4, 2) := by decide +kernel
theorem dL_law__1328 : decode cL_law_ 1328 = .ok (.iconst 2, 1) := by decide +kernel
theorem dL_law__1329 : decode cL_law_ 1329 = .ok (.iadd, 1) := by decide +kernel
theorem dL_law__1330 : decode cL_law_ 1330 = .ok (.iaload, 1) := by decide +kernel
theorem dL_law__1331 : decode cL_law_ 1331 = .ok (.aload_n 0, 1) := by decide +kernel
theorem dL_law__1332 : decode cL_law_ 1332 = .ok (.iload 4, 2) := by decide +kernel
theorem dL_law__1334 : decode cL_law_ 1334 = .ok (.iconst 3, 1) := by decide +kernel
theorem dL_law__1335 : decode cL_law_ 1335 = .ok (.iadd, 1) := by decide +kernel
theorem dL_law__1336 : decode cL_law_ 1336 = .ok (.iaload, 1) := by decide +kernel
theorem dL_law__1337 : decode cL_law_ 1337 = .ok (.aload_n 0, 1) := by decide +kernel
theorem dL_law__1338 : decode cL_law_ 1338 = .ok (.iload 4, 2) := by decide +kernel
theorem dL_law__1340 : decode cL_law_ 1340 = .ok (.iconst 4, 1) := by decide +kernel
theorem dL_law__1341 : decode cL_law_ 1341 = .ok (.iadd, 1) := by decide +kernel
theorem dL_law__1342 : decode cL_law_ 1342 = .ok (.iaload, 1) := by decide +kernel
theorem dL_law__1343 : decode cL_law_ 1343 = .ok (.aload_n 0, 1) := by decide +kernel
theorem dL_law__1344 : decode cL_law_ 1344 = .ok (.iload 4, 2) := by decide +kernel
theorem dL_law__1346 : decode cL_law_ 1346 = .ok (.iconst 5, 1) := by decide +kernel
theorem dL_law__1347 : decode cL_law_ 1347 = .ok (.iadd, 1) := by decide +kernel
theorem dL_law__1348 : decode cL_law_ 1348 = .ok (.iaload, 1) := by decide +kernel
theorem dL_law__1349 : decode cL_law_ 1349 = .ok (.aload_n 3, 1) := by decide +kernel
theorem dL_law__1350 : decode cL_law_ 1350 = .ok (.invokestatic 186, 3) := by decide +kernel
theorem dL_law__1353 : decode cL_law_ 1353 = .ok (.istore 5, 2) := by decide +kernel
theorem dL_law__1355 : decode cL_law_ 1355 = .ok (.aload_n 2, 1) := by decide +kernel
theorem dL_law__1356 : decode cL_law_ 1356 = .ok (.aload_n 0, 1) := by decide +kernel
theorem dL_law__1357 : decode cL_law_ 1357 = .ok (.iload 4, 2) := by decide +kernel
theorem dL_law__1359 : decode cL_law_ 1359 = .ok (.iconst 1, 1) := by decide +kernel
theorem dL_law__1360 : decode cL_law_ 1360 = .ok (.iadd, 1) := by decide +kernel
theorem dL_law__1361 : decode cL_law_ 1361 = .ok (.iaload, 1) := by decide +kernel
theorem dL_law__1362 : decode cL_law_ 1362 = .ok (.aload_n 0, 1) := by decide +kernel
theorem dL_law__1363 : decode cL_law_ 1363 = .ok (.iload 4, 2) := by decide +kernel
theorem dL_law__1365 : decode cL_law_ 1365 = .ok (.iconst 2, 1) := by decide +kernel
theorem dL_law__1366 : decode cL_law_ 1366 = .ok (.iadd, 1) := by decide +kernel
theorem dL_law__1367 : decode cL_law_ 1367 = .ok (.iaload, 1) := by decide +kernel
theorem dL_law__1368 : decode cL_law_ 1368 = .ok (.aload_n 0, 1) := by decide +kernel
theorem dL_law__1369 : decode cL_law_ 1369 = .ok (.iload 4, 2) := by decide +kernel
theorem dL_law__1371 : decode cL_law_ 1371 = .ok (.iconst 3, 1) := by decide +kernel
theorem dL_law__1372 : decode cL_law_ 1372 = .ok (.iadd, 1) := by decide +kernel
theorem dL_law__1373 : decode cL_law_ 1373 = .ok (.iaload, 1) := by decide +kernel
theorem dL_law__1374 : decode cL_law_ 1374 = .ok (.aload_n 0, 1) := by decide +kernel
theorem dL_law__1375 : decode cL_law_ 1375 = .ok (.iload 4, 2) := by decide +kernel
theorem dL_law__1377 : decode cL_law_ 1377 = .ok (.iconst 4, 1) := by decide +kernel
theorem dL_law__1378 : decode cL_law_ 1378 = .ok (.iadd, 1) := by decide +kernel
theorem dL_law__1379 : decode cL_law_ 1379 = .ok (.iaload, 1) := by decide +kernel
theorem dL_law__1380 : decode cL_law_ 1380 = .ok (.aload_n 0, 1) := by decide +kernel
theorem dL_law__1381 : decode cL_law_ 1381 = .ok (.iload 4, 2) := by decide +kernel
theorem dL_law__1383 : decode cL_law_ 1383 = .ok (.iconst 5, 1) := by decide +kernel
theorem dL_law__1384 : decode cL_law_ 1384 = .ok (.iadd, 1) := by decide +kernel
theorem dL_law__1385 : decode cL_law_ 1385 = .ok (.iaload, 1) := by decide +kernel
theorem dL_law__1386 : decode cL_law_ 1386 = .ok (.invokevirtual 189, 3) := by decide +kernel
theorem dL_law__1389 : decode cL_law_ 1389 = .ok (.istore 6, 2) := by decide +kernel
theorem dL_law__1391 : decode cL_law_ 1391 = .ok (.aload_n 2, 1) := by decide +kernel
theorem dL_law__1392 : decode cL_law_ 1392 = .ok (.invokevirtual 117, 3) := by decide +kernel
theorem dL_law__1395 : decode cL_law_ 1395 = .ok (.iload 5, 2) := by decide +kernel
theorem dL_law__1397 : decode cL_law_ 1397 = .ok (.if_icmp .eq 5, 3) := by decide +kernel
theorem dL_law__1400 : decode cL_law_ 1400 = .ok (.iconst 0, 1) := by decide +kernel
theorem dL_law__1401 : decode cL_law_ 1401 = .ok (.ireturn, 1) := by decide +kernel
theorem dL_law__1402 : decode cL_law_ 1402 = .ok (.iload 5, 2) := by decide +kernel
theorem dL_law__1404 : decode cL_law_ 1404 = .ok (.ifCond .ne 15, 3) := by decide +kernel
theorem dL_law__1407 : decode cL_law_ 1407 = .ok (.aload_n 3, 1) := by decide +kernel
theorem dL_law__1408 : decode cL_law_ 1408 = .ok (.iconst 0, 1) := by decide +kernel
theorem dL_law__1409 : decode cL_law_ 1409 = .ok (.laload, 1) := by decide +kernel
theorem dL_law__1410 : decode cL_law_ 1410 = .ok (.iload 6, 2) := by decide +kernel
theorem dL_law__1412 : decode cL_law_ 1412 = .ok (.i2l, 1) := by decide +kernel
theorem dL_law__1413 : decode cL_law_ 1413 = .ok (.lcmp, 1) := by decide +kernel
theorem dL_law__1414 : decode cL_law_ 1414 = .ok (.ifCond .eq 5, 3) := by decide +kernel
theorem dL_law__1417 : decode cL_law_ 1417 = .ok (.iconst 0, 1) := by decide +kernel
theorem dL_law__1418 : decode cL_law_ 1418 = .ok (.ireturn, 1) := by decide +kernel
theorem dL_law__1419 : decode cL_law_ 1419 = .ok (.goto 719, 3) := by decide +kernel
theorem dL_law__1422 : decode cL_law_ 1422 = .ok (.aload_n 1, 1) := by decide +kernel
theorem dL_law__1423 : decode cL_law_ 1423 = .ok (.aload_n 0, 1) := by decide +kernel
theorem dL_law__1424 : decode cL_law_ 1424 = .ok (.iload 4, 2) := by decide +kernel
theorem dL_law__1426 : decode cL_law_ 1426 = .ok (.iconst 1, 1) := by decide +kernel
theorem dL_law__1427 : decode cL_law_ 1427 = .ok (.iadd, 1) := by decide +kernel
theorem dL_law__1428 : decode cL_law_ 1428 = .ok (.iaload, 1) := by decide +kernel
theorem dL_law__1429 : decode cL_law_ 1429 = .ok (.invokevirtual 190, 3) := by decide +kernel
theorem dL_law__1432 : decode cL_law_ 1432 = .ok (.aload_n 2, 1) := by decide +kernel
theorem dL_law__1433 : decode cL_law_ 1433 = .ok (.aload_n 0, 1) := by decide +kernel
theorem dL_law__1434 : decode cL_law_ 1434 = .ok (.iload 4, 2) := by decide +kernel
theorem dL_law__1436 : decode cL_law_ 1436 = .ok (.iconst 1, 1) := by decide +kernel
theorem dL_law__1437 : decode cL_law_ 1437 = .ok (.iadd, 1) := by decide +kernel
theorem dL_law__1438 : decode cL_law_ 1438 = .ok (.iaload, 1) := by decide +kernel
theorem dL_law__1439 : decode cL_law_ 1439 = .ok (.invokevirtual 193, 3) := by decide +kernel
theorem dL_law__1442 : decode cL_law_ 1442 = .ok (.if_icmp .eq 696, 3) := by decide +kernel
theorem dL_law__1445 : decode cL_law_ 1445 = .ok (.iconst 0, 1) := by decide +kernel
theorem dL_law__1446 : decode cL_law_ 1446 = .ok (.ireturn, 1) := by decide +kernel
theorem dL_law__1447 : decode cL_law_ 1447 = .ok (.aload_n 1, 1) := by decide +kernel
theorem dL_law__1448 : decode cL_law_ 1448 = .ok (.aload_n 0, 1) := by decide +kernel
theorem dL_law__1449 : decode cL_law_ 1449 = .ok (.iload 4, 2) := by decide +kernel
theorem dL_law__1451 : decode cL_law_ 1451 = .ok (.iconst 1, 1) := by decide +kernel
theorem dL_law__1452 : decode cL_law_ 1452 = .ok (.iadd, 1) := by decide +kernel
theorem dL_law__1453 : decode cL_law_ 1453 = .ok (.iaload, 1) := by decide +kernel
theorem dL_law__1454 : decode cL_law_ 1454 = .ok (.invokevirtual 194, 3) := by decide +kernel
theorem dL_law__1457 : decode cL_law_ 1457 = .ok (.aload_n 2, 1) := by decide +kernel
theorem dL_law__1458 : decode cL_law_ 1458 = .ok (.aload_n 0, 1) := by decide +kernel
theorem dL_law__1459 : decode cL_law_ 1459 = .ok (.iload 4, 2) := by decide +kernel
theorem dL_law__1461 : decode cL_law_ 1461 = .ok (.iconst 1, 1) := by decide +kernel
theorem dL_law__1462 : decode cL_law_ 1462 = .ok (.iadd, 1) := by decide +kernel
theorem dL_law__1463 : decode cL_law_ 1463 = .ok (.iaload, 1) := by decide +kernel
theorem dL_law__1464 : decode cL_law_ 1464 = .ok (.invokevirtual 197, 3) := by decide +kernel
theorem dL_law__1467 : decode cL_law_ 1467 = .ok (.if_icmp .eq 671, 3) := by decide +kernel
theorem dL_law__1470 : decode cL_law_ 1470 = .ok (.iconst 0, 1) := by decide +kernel
theorem dL_law__1471 : decode cL_law_ 1471 = .ok (.ireturn, 1) := by decide +kernel
theorem dL_law__1472 : decode cL_law_ 1472 = .ok (.aload_n 1, 1) := by decide +kernel
theorem dL_law__1473 : decode cL_law_ 1473 = .ok (.aload_n 3, 1) := by decide +kernel
theorem dL_law__1474 : decode cL_law_ 1474 = .ok (.invokestatic 198, 3) := by decide +kernel
theorem dL_law__1477 : decode cL_law_ 1477 = .ok (.istore 5, 2) := by decide +kernel
theorem dL_law__1479 : decode cL_law_ 1479 = .ok (.aload_n 2, 1) := by decide +kernel
theorem dL_law__1480 : decode cL_law_ 1480 = .ok (.invokevirtual 200, 3) := by decide +kernel
theorem dL_law__1483 : decode cL_law_ 1483 = .ok (.istore 6, 2) := by decide +kernel
theorem dL_law__1485 : decode cL_law_ 1485 = .ok (.aload_n 2, 1) := by decide +kernel
theorem dL_law__1486 : decode cL_law_ 1486 = .ok (.invokevirtual 117, 3) := by decide +kernel
theorem dL_law__1489 : decode cL_law_ 1489 = .ok (.iload 5, 2) := by decide +kernel
theorem dL_law__1491 : decode cL_law_ 1491 = .ok (.if_icmp .eq 5, 3) := by decide +kernel
theorem dL_law__1494 : decode cL_law_ 1494 = .ok (.iconst 0, 1) := by decide +kernel
theorem dL_law__1495 : decode cL_law_ 1495 = .ok (.ireturn, 1) := by decide +kernel
theorem dL_law__1496 : decode cL_law_ 1496 = .ok (.iload 5, 2) := by decide +kernel
theorem dL_law__1498 : decode cL_law_ 1498 = .ok (.ifCond .ne 15, 3) := by decide +kernel
theorem dL_law__1501 : decode cL_law_ 1501 = .ok (.aload_n 3, 1) := by decide +kernel
theorem dL_law__1502 : decode cL_law_ 1502 = .ok (.iconst 0, 1) := by decide +kernel
theorem dL_law__1503 : decode cL_law_ 1503 = .ok (.laload, 1) := by decide +kernel
theorem dL_law__1504 : decode cL_law_ 1504 = .ok (.iload 6, 2) := by decide +kernel
theorem dL_law__1506 : decode cL_law_ 1506 = .ok (.i2l, 1) := by decide +kernel
theorem dL_law__1507 : decode cL_law_ 1507 = .ok (.lcmp, 1) := by decide +kernel
theorem dL_law__1508 : decode cL_law_ 1508 = .ok (.ifCond .eq 5, 3) := by decide +kernel
theorem dL_law__1511 : decode cL_law_ 1511 = .ok (.iconst 0, 1) := by decide +kernel
theorem dL_law__1512 : decode cL_law_ 1512 = .ok (.ireturn, 1) := by decide +kernel
theorem dL_law__1513 : decode cL_law_ 1513 = .ok (.goto 625, 3) := by decide +kernel
theorem dL_law__1516 : decode cL_law_ 1516 = .ok (.aload_n 1, 1) := by decide +kernel
theorem dL_law__1517 : decode cL_law_ 1517 = .ok (.aload_n 0, 1) := by decide +kernel
theorem dL_law__1518 : decode cL_law_ 1518 = .ok (.iload 4, 2) := by decide +kernel
theorem dL_law__1520 : decode cL_law_ 1520 = .ok (.iconst 1, 1) := by decide +kernel
theorem dL_law__1521 : decode cL_law_ 1521 = .ok (.iadd, 1) := by decide +kernel
theorem dL_law__1522 : decode cL_law_ 1522 = .ok (.iaload, 1) := by decide +kernel
theorem dL_law__1523 : decode cL_law_ 1523 = .ok (.aload_n 3, 1) := by decide +kernel
theorem dL_law__1524 : decode cL_law_ 1524 = .ok (.invokestatic 201, 3) := by decide +kernel
theorem dL_law__1527 : decode cL_law_ 1527 = .ok (.istore 5, 2) := by decide +kernel
theorem dL_law__1529 : decode cL_law_ 1529 = .ok (.aload_n 2, 1) := by decide +kernel
theorem dL_law__1530 : decode cL_law_ 1530 = .ok (.aload_n 0, 1) := by decide +kernel
theorem dL_law__1531 : decode cL_law_ 1531 = .ok (.iload 4, 2) := by decide +kernel
theorem dL_law__1533 : decode cL_law_ 1533 = .ok (.iconst 1, 1) := by decide +kernel
theorem dL_law__1534 : decode cL_law_ 1534 = .ok (.iadd, 1) := by decide +kernel
theorem dL_law__1535 : decode cL_law_ 1535 = .ok (.iaload, 1) := by decide +kernel
theorem dL_law__1536 : decode cL_law_ 1536 = .ok (.invokevirtual 203, 3) := by decide +kernel
theorem dL_law__1539 : decode cL_law_ 1539 = .ok (.istore 6, 2) := by decide +kernel
theorem dL_law__1541 : decode cL_law_ 1541 = .ok (.aload_n 2, 1) := by decide +kernel
theorem dL_law__1542 : decode cL_law_ 1542 = .ok (.invokevirtual 117, 3) := by decide +kernel
theorem dL_law__1545 : decode cL_law_ 1545 = .ok (.iload 5, 2) := by decide +kernel
theorem dL_law__1547 : decode cL_law_ 1547 = .ok (.if_icmp .eq 5, 3) := by decide +kernel
theorem dL_law__1550 : decode cL_law_ 1550 = .ok (.iconst 0, 1) := by decide +kernel
theorem dL_law__1551 : decode cL_law_ 1551 = .ok (.ireturn, 1) := by decide +kernel
theorem dL_law__1552 : decode cL_law_ 1552 = .ok (.iload 5, 2) := by decide +kernel
theorem dL_law__1554 : decode cL_law_ 1554 = .ok (.ifCond .ne 15, 3) := by decide +kernel
theorem dL_law__1557 : decode cL_law_ 1557 = .ok (.aload_n 3, 1) := by decide +kernel
theorem dL_law__1558 : decode cL_law_ 1558 = .ok (.iconst 0, 1) := by decide +kernel
theorem dL_law__1559 : decode cL_law_ 1559 = .ok (.laload, 1) := by decide +kernel
theorem dL_law__1560 : decode cL_law_ 1560 = .ok (.iload 6, 2) := by decide +kernel
theorem dL_law__1562 : decode cL_law_ 1562 = .ok (.i2l, 1) := by decide +kernel
theorem dL_law__1563 : decode cL_law_ 1563 = .ok (.lcmp, 1) := by decide +kernel
theorem dL_law__1564 : decode cL_law_ 1564 = .ok (.ifCond .eq 5, 3) := by decide +kernel
theorem dL_law__1567 : decode cL_law_ 1567 = .ok (.iconst 0, 1) := by decide +kernel
theorem dL_law__1568 : decode cL_law_ 1568 = .ok (.ireturn, 1) := by decide +kernel
theorem dL_law__1569 : decode cL_law_ 1569 = .ok (.goto 569, 3) := by decide +kernel
theorem dL_law__1572 : decode cL_law_ 1572 = .ok (.aload_n 1, 1) := by decide +kernel
theorem dL_law__1573 : decode cL_law_ 1573 = .ok (.aload_n 0, 1) := by decide +kernel
theorem dL_law__1574 : decode cL_law_ 1574 = .ok (.iload 4, 2) := by decide +kernel
theorem dL_law__1576 : decode cL_law_ 1576 = .ok (.iconst 1, 1) := by decide +kernel
theorem dL_law__1577 : decode cL_law_ 1577 = .ok (.iadd, 1) := by decide +kernel
theorem dL_law__1578 : decode cL_law_ 1578 = .ok (.iaload, 1) := by decide +kernel
theorem dL_law__1579 : decode cL_law_ 1579 = .ok (.aload_n 0, 1) := by decide +kernel
theorem dL_law__1580 : decode cL_law_ 1580 = .ok (.iload 4, 2) := by decide +kernel
theorem dL_law__1582 : decode cL_law_ 1582 = .ok (.iconst 2, 1) := by decide +kernel
theorem dL_law__1583 : decode cL_law_ 1583 = .ok (.iadd, 1) := by decide +kernel
theorem dL_law__1584 : decode cL_law_ 1584 = .ok (.iaload, 1) := by decide +kernel
theorem dL_law__1585 : decode cL_law_ 1585 = .ok (.aload_n 3, 1) := by decide +kernel
theorem dL_law__1586 : decode cL_law_ 1586 = .ok (.invokestatic 204, 3) := by decide +kernel
theorem dL_law__1589 : decode cL_law_ 1589 = .ok (.istore 5, 2) := by decide +kernel
theorem dL_law__1591 : decode cL_law_ 1591 = .ok (.aload_n 2, 1) := by decide +kernel
theorem dL_law__1592 : decode cL_law_ 1592 = .ok (.aload_n 0, 1) := by decide +kernel
theorem dL_law__1593 : decode cL_law_ 1593 = .ok (.iload 4, 2) := by decide +kernel
theorem dL_law__1595 : decode cL_law_ 1595 = .ok (.iconst 1, 1) := by decide +kernel
theorem dL_law__1596 : decode cL_law_ 1596 = .ok (.iadd, 1) := by decide +kernel
theorem dL_law__1597 : decode cL_law_ 1597 = .ok (.iaload, 1) := by decide +kernel
theorem dL_law__1598 : decode cL_law_ 1598 = .ok (.aload_n 0, 1) := by decide +kernel
theorem dL_law__1599 : decode cL_law_ 1599 = .ok (.iload 4, 2) := by decide +kernel
theorem dL_law__1601 : decode cL_law_ 1601 = .ok (.iconst 2, 1) := by decide +kernel
theorem dL_law__1602 : decode cL_law_ 1602 = .ok (.iadd, 1) := by decide +kernel
theorem dL_law__1603 : decode cL_law_ 1603 = .ok (.iaload, 1) := by decide +kernel
theorem dL_law__1604 : decode cL_law_ 1604 = .ok (.invokevirtual 206, 3) := by decide +kernel
theorem dL_law__1607 : decode cL_law_ 1607 = .ok (.istore 6, 2) := by decide +kernel
theorem dL_law__1609 : decode cL_law_ 1609 = .ok (.aload_n 2, 1) := by decide +kernel
theorem dL_law__1610 : decode cL_law_ 1610 = .ok (.invokevirtual 117, 3) := by decide +kernel
theorem dL_law__1613 : decode cL_law_ 1613 = .ok (.iload 5, 2) := by decide +kernel
theorem dL_law__1615 : decode cL_law_ 1615 = .ok (.if_icmp .eq 5, 3) := by decide +kernel
theorem dL_law__1618 : decode cL_law_ 1618 = .ok (.iconst 0, 1) := by decide +kernel
theorem dL_law__1619 : decode cL_law_ 1619 = .ok (.ireturn, 1) := by decide +kernel
theorem dL_law__1620 : decode cL_law_ 1620 = .ok (.iload 5, 2) := by decide +kernel
theorem dL_law__1622 : decode cL_law_ 1622 = .ok (.ifCond .ne 15, 3) := by decide +kernel
theorem dL_law__1625 : decode cL_law_ 1625 = .ok (.aload_n 3, 1) := by decide +kernel
theorem dL_law__1626 : decode cL_law_ 1626 = .ok (.iconst 0, 1) := by decide +kernel
theorem dL_law__1627 : decode cL_law_ 1627 = .ok (.laload, 1) := by decide +kernel
theorem dL_law__1628 : decode cL_law_ 1628 = .ok (.iload 6, 2) := by decide +kernel
theorem dL_law__1630 : decode cL_law_ 1630 = .ok (.i2l, 1) := by decide +kernel
theorem dL_law__1631 : decode cL_law_ 1631 = .ok (.lcmp, 1) := by decide +kernel
theorem dL_law__1632 : decode cL_law_ 1632 = .ok (.ifCond .eq 5, 3) := by decide +kernel
theorem dL_law__1635 : decode cL_law_ 1635 = .ok (.iconst 0, 1) := by decide +kernel
theorem dL_law__1636 : decode cL_law_ 1636 = .ok (.ireturn, 1) := by decide +kernel
theorem dL_law__1637 : decode cL_law_ 1637 = .ok (.goto 501, 3) := by decide +kernel
theorem dL_law__1640 : decode cL_law_ 1640 = .ok (.aload_n 1, 1) := by decide +kernel
theorem dL_law__1641 : decode cL_law_ 1641 = .ok (.aload_n 0, 1) := by decide +kernel
theorem dL_law__1642 : decode cL_law_ 1642 = .ok (.iload 4, 2) := by decide +kernel
theorem dL_law__1644 : decode cL_law_ 1644 = .ok (.iconst 1, 1) := by decide +kernel
theorem dL_law__1645 : decode cL_law_ 1645 = .ok (.iadd, 1) := by decide +kernel
theorem dL_law__1646 : decode cL_law_ 1646 = .ok (.iaload, 1) := by decide +kernel
theorem dL_law__1647 : decode cL_law_ 1647 = .ok (.aload_n 0, 1) := by decide +kernel
theorem dL_law__1648 : decode cL_law_ 1648 = .ok (.iload 4, 2) := by decide +kernel
theorem dL_law__1650 : decode cL_law_ 1650 = .ok (.iconst 2, 1) := by decide +kernel
theorem dL_law__1651 : decode cL_law_ 1651 = .ok (.iadd, 1) := by decide +kernel
theorem dL_law__1652 : decode cL_law_ 1652 = .ok (.iaload, 1) := by decide +kernel
theorem dL_law__1653 : decode cL_law_ 1653 = .ok (.aload_n 0, 1) := by decide +kernel
theorem dL_law__1654 : decode cL_law_ 1654 = .ok (.iload 4, 2) := by decide +kernel
theorem dL_law__1656 : decode cL_law_ 1656 = .ok (.iconst 3, 1) := by decide +kernel
theorem dL_law__1657 : decode cL_law_ 1657 = .ok (.iadd, 1) := by decide +kernel
theorem dL_law__1658 : decode cL_law_ 1658 = .ok (.iaload, 1) := by decide +kernel
theorem dL_law__1659 : decode cL_law_ 1659 = .ok (.aload_n 3, 1) := by decide +kernel
theorem dL_law__1660 : decode cL_law_ 1660 = .ok (.invokestatic 207, 3) := by decide +kernel
theorem dL_law__1663 : decode cL_law_ 1663 = .ok (.istore 5, 2) := by decide +kernel
theorem dL_law__1665 : decode cL_law_ 1665 = .ok (.aload_n 2, 1) := by decide +kernel
theorem dL_law__1666 : decode cL_law_ 1666 = .ok (.aload_n 0, 1) := by decide +kernel
theorem dL_law__1667 : decode cL_law_ 1667 = .ok (.iload 4, 2) := by decide +kernel
theorem dL_law__1669 : decode cL_law_ 1669 = .ok (.iconst 1, 1) := by decide +kernel
theorem dL_law__1670 : decode cL_law_ 1670 = .ok (.iadd, 1) := by decide +kernel
theorem dL_law__1671 : decode cL_law_ 1671 = .ok (.iaload, 1) := by decide +kernel
theorem dL_law__1672 : decode cL_law_ 1672 = .ok (.aload_n 0, 1) := by decide +kernel
theorem dL_law__1673 : decode cL_law_ 1673 = .ok (.iload 4, 2) := by decide +kernel
theorem dL_law__1675 : decode cL_law_ 1675 = .ok (.iconst 2, 1) := by decide +kernel
theorem dL_law__1676 : decode cL_law_ 1676 = .ok (.iadd, 1) := by decide +kernel
theorem dL_law__1677 : decode cL_law_ 1677 = .ok (.iaload, 1) := by decide +kernel
theorem dL_law__1678 : decode cL_law_ 1678 = .ok (.aload_n 0, 1) := by decide +kernel
theorem dL_law__1679 : decode cL_law_ 1679 = .ok (.iload 4, 2) := by decide +kernel
theorem dL_law__1681 : decode cL_law_ 1681 = .ok (.iconst 3, 1) := by decide +kernel
theorem dL_law__1682 : decode cL_law_ 1682 = .ok (.iadd, 1) := by decide +kernel
theorem dL_law__1683 : decode cL_law_ 1683 = .ok (.iaload, 1) := by decide +kernel
theorem dL_law__1684 : decode cL_law_ 1684 = .ok (.invokevirtual 209, 3) := by decide +kernel
theorem dL_law__1687 : decode cL_law_ 1687 = .ok (.istore 6, 2) := by decide +kernel
theorem dL_law__1689 : decode cL_law_ 1689 = .ok (.aload_n 2, 1) := by decide +kernel
theorem dL_law__1690 : decode cL_law_ 1690 = .ok (.invokevirtual 117, 3) := by decide +kernel
theorem dL_law__1693 : decode cL_law_ 1693 = .ok (.iload 5, 2) := by decide +kernel
theorem dL_law__1695 : decode cL_law_ 1695 = .ok (.if_icmp .eq 5, 3) := by decide +kernel
theorem dL_law__1698 : decode cL_law_ 1698 = .ok (.iconst 0, 1) := by decide +kernel
theorem dL_law__1699 : decode cL_law_ 1699 = .ok (.ireturn, 1) := by decide +kernel
theorem dL_law__1700 : decode cL_law_ 1700 = .ok (.iload 5, 2) := by decide +kernel
theorem dL_law__1702 : decode cL_law_ 1702 = .ok (.ifCond .ne 15, 3) := by decide +kernel
theorem dL_law__1705 : decode cL_law_ 1705 = .ok (.aload_n 3, 1) := by decide +kernel
theorem dL_law__1706 : decode cL_law_ 1706 = .ok (.iconst 0, 1) := by decide +kernel
theorem dL_law__1707 : decode cL_law_ 1707 = .ok (.laload, 1) := by decide +kernel
theorem dL_law__1708 : decode cL_law_ 1708 = .ok (.iload 6, 2) := by decide +kernel
theorem dL_law__1710 : decode cL_law_ 1710 = .ok (.i2l, 1) := by decide +kernel
theorem dL_law__1711 : decode cL_law_ 1711 = .ok (.lcmp, 1) := by decide +kernel
theorem dL_law__1712 : decode cL_law_ 1712 = .ok (.ifCond .eq 5, 3) := by decide +kernel
theorem dL_law__1715 : decode cL_law_ 1715 = .ok (.iconst 0, 1) := by decide +kernel
theorem dL_law__1716 : decode cL_law_ 1716 = .ok (.ireturn, 1) := by decide +kernel
theorem dL_law__1717 : decode cL_law_ 1717 = .ok (.goto 421, 3) := by decide +kernel
theorem dL_law__1720 : decode cL_law_ 1720 = .ok (.aload_n 1, 1) := by decide +kernel
theorem dL_law__1721 : decode cL_law_ 1721 = .ok (.aload_n 0, 1) := by decide +kernel
theorem dL_law__1722 : decode cL_law_ 1722 = .ok (.iload 4, 2) := by decide +kernel
theorem dL_law__1724 : decode cL_law_ 1724 = .ok (.iconst 1, 1) := by decide +kernel
theorem dL_law__1725 : decode cL_law_ 1725 = .ok (.iadd, 1) := by decide +kernel
theorem dL_law__1726 : decode cL_law_ 1726 = .ok (.iaload, 1) := by decide +kernel
theorem dL_law__1727 : decode cL_law_ 1727 = .ok (.aload_n 3, 1) := by decide +kernel
theorem dL_law__1728 : decode cL_law_ 1728 = .ok (.invokestatic 210, 3) := by decide +kernel
theorem dL_law__1731 : decode cL_law_ 1731 = .ok (.istore 5, 2) := by decide +kernel
theorem dL_law__1733 : decode cL_law_ 1733 = .ok (.aload_n 2, 1) := by decide +kernel
theorem dL_law__1734 : decode cL_law_ 1734 = .ok (.aload_n 0, 1) := by decide +kernel
theorem dL_law__1735 : decode cL_law_ 1735 = .ok (.iload 4, 2) := by decide +kernel
theorem dL_law__1737 : decode cL_law_ 1737 = .ok (.iconst 1, 1) := by decide +kernel
theorem dL_law__1738 : decode cL_law_ 1738 = .ok (.iadd, 1) := by decide +kernel
theorem dL_law__1739 : decode cL_law_ 1739 = .ok (.iaload, 1) := by decide +kernel
theorem dL_law__1740 : decode cL_law_ 1740 = .ok (.invokevirtual 212, 3) := by decide +kernel
theorem dL_law__1743 : decode cL_law_ 1743 = .ok (.istore 6, 2) := by decide +kernel
theorem dL_law__1745 : decode cL_law_ 1745 = .ok (.aload_n 2, 1) := by decide +kernel
theorem dL_law__1746 : decode cL_law_ 1746 = .ok (.invokevirtual 117, 3) := by decide +kernel
theorem dL_law__1749 : decode cL_law_ 1749 = .ok (.iload 5, 2) := by decide +kernel
theorem dL_law__1751 : decode cL_law_ 1751 = .ok (.if_icmp .eq 5, 3) := by decide +kernel
theorem dL_law__1754 : decode cL_law_ 1754 = .ok (.iconst 0, 1) := by decide +kernel
theorem dL_law__1755 : decode cL_law_ 1755 = .ok (.ireturn, 1) := by decide +kernel
theorem dL_law__1756 : decode cL_law_ 1756 = .ok (.iload 5, 2) := by decide +kernel
theorem dL_law__1758 : decode cL_law_ 1758 = .ok (.ifCond .ne 15, 3) := by decide +kernel
theorem dL_law__1761 : decode cL_law_ 1761 = .ok (.aload_n 3, 1) := by decide +kernel
theorem dL_law__1762 : decode cL_law_ 1762 = .ok (.iconst 0, 1) := by decide +kernel
theorem dL_law__1763 : decode cL_law_ 1763 = .ok (.laload, 1) := by decide +kernel
theorem dL_law__1764 : decode cL_law_ 1764 = .ok (.iload 6, 2) := by decide +kernel
theorem dL_law__1766 : decode cL_law_ 1766 = .ok (.i2l, 1) := by decide +kernel
theorem dL_law__1767 : decode cL_law_ 1767 = .ok (.lcmp, 1) := by decide +kernel
theorem dL_law__1768 : decode cL_law_ 1768 = .ok (.ifCond .eq 5, 3) := by decide +kernel
theorem dL_law__1771 : decode cL_law_ 1771 = .ok (.iconst 0, 1) := by decide +kernel
theorem dL_law__1772 : decode cL_law_ 1772 = .ok (.ireturn, 1) := by decide +kernel
theorem dL_law__1773 : decode cL_law_ 1773 = .ok (.goto 365, 3) := by decide +kernel
theorem dL_law__1776 : decode cL_law_ 1776 = .ok (.aload_n 1, 1) := by decide +kernel
theorem dL_law__1777 : decode cL_law_ 1777 = .ok (.aload_n 0, 1) := by decide +kernel
theorem dL_law__1778 : decode cL_law_ 1778 = .ok (.iload 4, 2) := by decide +kernel
theorem dL_law__1780 : decode cL_law_ 1780 = .ok (.iconst 1, 1) := by decide +kernel
theorem dL_law__1781 : decode cL_law_ 1781 = .ok (.iadd, 1) := by decide +kernel
theorem dL_law__1782 : decode cL_law_ 1782 = .ok (.iaload, 1) := by decide +kernel
theorem dL_law__1783 : decode cL_law_ 1783 = .ok (.aload_n 3, 1) := by decide +kernel
theorem dL_law__1784 : decode cL_law_ 1784 = .ok (.invokestatic 213, 3) := by decide +kernel
theorem dL_law__1787 : decode cL_law_ 1787 = .ok (.istore 5, 2) := by decide +kernel
theorem dL_law__1789 : decode cL_law_ 1789 = .ok (.aload_n 2, 1) := by decide +kernel
theorem dL_law__1790 : decode cL_law_ 1790 = .ok (.aload_n 0, 1) := by decide +kernel
theorem dL_law__1791 : decode cL_law_ 1791 = .ok (.iload 4, 2) := by decide +kernel
theorem dL_law__1793 : decode cL_law_ 1793 = .ok (.iconst 1, 1) := by decide +kernel
theorem dL_law__1794 : decode cL_law_ 1794 = .ok (.iadd, 1) := by decide +kernel
theorem dL_law__1795 : decode cL_law_ 1795 = .ok (.iaload, 1) := by decide +kernel
theorem dL_law__1796 : decode cL_law_ 1796 = .ok (.invokevirtual 215, 3) := by decide +kernel
theorem dL_law__1799 : decode cL_law_ 1799 = .ok (.istore 6, 2) := by decide +kernel
theorem dL_law__1801 : decode cL_law_ 1801 = .ok (.aload_n 2, 1) := by decide +kernel
theorem dL_law__1802 : decode cL_law_ 1802 = .ok (.invokevirtual 117, 3) := by decide +kernel
theorem dL_law__1805 : decode cL_law_ 1805 = .ok (.iload 5, 2) := by decide +kernel
theorem dL_law__1807 : decode cL_law_ 1807 = .ok (.if_icmp .eq 5, 3) := by decide +kernel
theorem dL_law__1810 : decode cL_law_ 1810 = .ok (.iconst 0, 1) := by decide +kernel
theorem dL_law__1811 : decode cL_law_ 1811 = .ok (.ireturn, 1) := by decide +kernel
theorem dL_law__1812 : decode cL_law_ 1812 = .ok (.iload 5, 2) := by decide +kernel
theorem dL_law__1814 : decode cL_law_ 1814 = .ok (.ifCond .ne 15, 3) := by decide +kernel
theorem dL_law__1817 : decode cL_law_ 1817 = .ok (.aload_n 3, 1) := by decide +kernel
theorem dL_law__1818 : decode cL_law_ 1818 = .ok (.iconst 0, 1) := by decide +kernel
theorem dL_law__1819 : decode cL_law_ 1819 = .ok (.laload, 1) := by decide +kernel
theorem dL_law__1820 : decode cL_law_ 1820 = .ok (.iload 6, 2) := by decide +kernel
theorem dL_law__1822 : decode cL_law_ 1822 = .ok (.i2l, 1) := by decide +kernel
theorem dL_law__1823 : decode cL_law_ 1823 = .ok (.lcmp, 1) := by decide +kernel
theorem dL_law__1824 : decode cL_law_ 1824 = .ok (.ifCond .eq 5, 3) := by decide +kernel
theorem dL_law__1827 : decode cL_law_ 1827 = .ok (.iconst 0, 1) := by decide +kernel
theorem dL_law__1828 : decode cL_law_ 1828 = .ok (.ireturn, 1) := by decide +kernel
theorem dL_law__1829 : decode cL_law_ 1829 = .ok (.goto 309, 3) := by decide +kernel
theorem dL_law__1832 : decode cL_law_ 1832 = .ok (.aload_n 1, 1) := by decide +kernel
theorem dL_law__1833 : decode cL_law_ 1833 = .ok (.aload_n 0, 1) := by decide +kernel
theorem dL_law__1834 : decode cL_law_ 1834 = .ok (.iload 4, 2) := by decide +kernel
theorem dL_law__1836 : decode cL_law_ 1836 = .ok (.iconst 1, 1) := by decide +kernel
theorem dL_law__1837 : decode cL_law_ 1837 = .ok (.iadd, 1) := by decide +kernel
theorem dL_law__1838 : decode cL_law_ 1838 = .ok (.iaload, 1) := by decide +kernel
theorem dL_law__1839 : decode cL_law_ 1839 = .ok (.aload_n 0, 1) := by decide +kernel
theorem dL_law__1840 : decode cL_law_ 1840 = .ok (.iload 4, 2) := by decide +kernel
theorem dL_law__1842 : decode cL_law_ 1842 = .ok (.iconst 2, 1) := by decide +kernel
theorem dL_law__1843 : decode cL_law_ 1843 = .ok (.iadd, 1) := by decide +kernel
theorem dL_law__1844 : decode cL_law_ 1844 = .ok (.iaload, 1) := by decide +kernel
theorem dL_law__1845 : decode cL_law_ 1845 = .ok (.aload_n 0, 1) := by decide +kernel
theorem dL_law__1846 : decode cL_law_ 1846 = .ok (.iload 4, 2) := by decide +kernel
theorem dL_law__1848 : decode cL_law_ 1848 = .ok (.iconst 3, 1) := by decide +kernel
theorem dL_law__1849 : decode cL_law_ 1849 = .ok (.iadd, 1) := by decide +kernel
theorem dL_law__1850 : decode cL_law_ 1850 = .ok (.iaload, 1) := by decide +kernel
theorem dL_law__1851 : decode cL_law_ 1851 = .ok (.aload_n 3, 1) := by decide +kernel
theorem dL_law__1852 : decode cL_law_ 1852 = .ok (.invokestatic 216, 3) := by decide +kernel
theorem dL_law__1855 : decode cL_law_ 1855 = .ok (.istore 5, 2) := by decide +kernel
theorem dL_law__1857 : decode cL_law_ 1857 = .ok (.aload_n 2, 1) := by decide +kernel
theorem dL_law__1858 : decode cL_law_ 1858 = .ok (.aload_n 0, 1) := by decide +kernel
theorem dL_law__1859 : decode cL_law_ 1859 = .ok (.iload 4, 2) := by decide +kernel
theorem dL_law__1861 : decode cL_law_ 1861 = .ok (.iconst 1, 1) := by decide +kernel
theorem dL_law__1862 : decode cL_law_ 1862 = .ok (.iadd, 1) := by decide +kernel
theorem dL_law__1863 : decode cL_law_ 1863 = .ok (.iaload, 1) := by decide +kernel
theorem dL_law__1864 : decode cL_law_ 1864 = .ok (.aload_n 0, 1) := by decide +kernel
theorem dL_law__1865 : decode cL_law_ 1865 = .ok (.iload 4, 2) := by decide +kernel
theorem dL_law__1867 : decode cL_law_ 1867 = .ok (.iconst 2, 1) := by decide +kernel
theorem dL_law__1868 : decode cL_law_ 1868 = .ok (.iadd, 1) := by decide +kernel
theorem dL_law__1869 : decode cL_law_ 1869 = .ok (.iaload, 1) := by decide +kernel
theorem dL_law__1870 : decode cL_law_ 1870 = .ok (.aload_n 0, 1) := by decide +kernel
theorem dL_law__1871 : decode cL_law_ 1871 = .ok (.iload 4, 2) := by decide +kernel
theorem dL_law__1873 : decode cL_law_ 1873 = .ok (.iconst 3, 1) := by decide +kernel
theorem dL_law__1874 : decode cL_law_ 1874 = .ok (.iadd, 1) := by decide +kernel
theorem dL_law__1875 : decode cL_law_ 1875 = .ok (.iaload, 1) := by decide +kernel
theorem dL_law__1876 : decode cL_law_ 1876 = .ok (.invokevirtual 218, 3) := by decide +kernel
theorem dL_law__1879 : decode cL_law_ 1879 = .ok (.istore 6, 2) := by decide +kernel
theorem dL_law__1881 : decode cL_law_ 1881 = .ok (.aload_n 2, 1) := by decide +kernel
theorem dL_law__1882 : decode cL_law_ 1882 = .ok (.invokevirtual 117, 3) := by decide +kernel
theorem dL_law__1885 : decode cL_law_ 1885 = .ok (.iload 5, 2) := by decide +kernel
theorem dL_law__1887 : decode cL_law_ 1887 = .ok (.if_icmp .eq 5, 3) := by decide +kernel
theorem dL_law__1890 : decode cL_law_ 1890 = .ok (.iconst 0, 1) := by decide +kernel
theorem dL_law__1891 : decode cL_law_ 1891 = .ok (.ireturn, 1) := by decide +kernel
theorem dL_law__1892 : decode cL_law_ 1892 = .ok (.iload 5, 2) := by decide +kernel
theorem dL_law__1894 : decode cL_law_ 1894 = .ok (.ifCond .ne 15, 3) := by decide +kernel
theorem dL_law__1897 : decode cL_law_ 1897 = .ok (.aload_n 3, 1) := by decide +kernel
theorem dL_law__1898 : decode cL_law_ 1898 = .ok (.iconst 0, 1) := by decide +kernel
theorem dL_law__1899 : decode cL_law_ 1899 = .ok (.laload, 1) := by decide +kernel
theorem dL_law__1900 : decode cL_law_ 1900 = .ok (.iload 6, 2) := by decide +kernel
theorem dL_law__1902 : decode cL_law_ 1902 = .ok (.i2l, 1) := by decide +kernel
theorem dL_law__1903 : decode cL_law_ 1903 = .ok (.lcmp, 1) := by decide +kernel
theorem dL_law__1904 : decode cL_law_ 1904 = .ok (.ifCond .eq 5, 3) := by decide +kernel
theorem dL_law__1907 : decode cL_law_ 1907 = .ok (.iconst 0, 1) := by decide +kernel
theorem dL_law__1908 : decode cL_law_ 1908 = .ok (.ireturn, 1) := by decide +kernel
theorem dL_law__1909 : decode cL_law_ 1909 = .ok (.goto 229, 3) := by decide +kernel
theorem dL_law__1912 : decode cL_law_ 1912 = .ok (.aload_n 1, 1) := by decide +kernel
theorem dL_law__1913 : decode cL_law_ 1913 = .ok (.aload_n 0, 1) := by decide +kernel
theorem dL_law__1914 : decode cL_law_ 1914 = .ok (.iload 4, 2) := by decide +kernel
theorem dL_law__1916 : decode cL_law_ 1916 = .ok (.iconst 1, 1) := by decide +kernel
theorem dL_law__1917 : decode cL_law_ 1917 = .ok (.iadd, 1) := by decide +kernel
theorem dL_law__1918 : decode cL_law_ 1918 = .ok (.iaload, 1) := by decide +kernel
theorem dL_law__1919 : decode cL_law_ 1919 = .ok (.ifCond .eq 7, 3) := by decide +kernel
theorem dL_law__1922 : decode cL_law_ 1922 = .ok (.iconst 1, 1) := by decide +kernel
theorem dL_law__1923 : decode cL_law_ 1923 = .ok (.goto 4, 3) := by decide +kernel
theorem dL_law__1926 : decode cL_law_ 1926 = .ok (.iconst 0, 1) := by decide +kernel
theorem dL_law__1927 : decode cL_law_ 1927 = .ok (.invokevirtual 219, 3) := by decide +kernel
theorem dL_law__1930 : decode cL_law_ 1930 = .ok (.aload_n 2, 1) := by decide +kernel
theorem dL_law__1931 : decode cL_law_ 1931 = .ok (.aload_n 0, 1) := by decide +kernel
theorem dL_law__1932 : decode cL_law_ 1932 = .ok (.iload 4, 2) := by decide +kernel
theorem dL_law__1934 : decode cL_law_ 1934 = .ok (.iconst 1, 1) := by decide +kernel
theorem dL_law__1935 : decode cL_law_ 1935 = .ok (.iadd, 1) := by decide +kernel
theorem dL_law__1936 : decode cL_law_ 1936 = .ok (.iaload, 1) := by decide +kernel
theorem dL_law__1937 : decode cL_law_ 1937 = .ok (.ifCond .eq 7, 3) := by decide +kernel
theorem dL_law__1940 : decode cL_law_ 1940 = .ok (.iconst 1, 1) := by decide +kernel
theorem dL_law__1941 : decode cL_law_ 1941 = .ok (.goto 4, 3) := by decide +kernel
theorem dL_law__1944 : decode cL_law_ 1944 = .ok (.iconst 0, 1) := by decide +kernel
theorem dL_law__1945 : decode cL_law_ 1945 = .ok (.invokevirtual 223, 3) := by decide +kernel
theorem dL_law__1948 : decode cL_law_ 1948 = .ok (.if_icmp .eq 190, 3) := by decide +kernel
theorem dL_law__1951 : decode cL_law_ 1951 = .ok (.iconst 0, 1) := by decide +kernel
theorem dL_law__1952 : decode cL_law_ 1952 = .ok (.ireturn, 1) := by decide +kernel
theorem dL_law__1953 : decode cL_law_ 1953 = .ok (.aload_n 1, 1) := by decide +kernel
theorem dL_law__1954 : decode cL_law_ 1954 = .ok (.aload_n 0, 1) := by decide +kernel
theorem dL_law__1955 : decode cL_law_ 1955 = .ok (.iload 4, 2) := by decide +kernel
theorem dL_law__1957 : decode cL_law_ 1957 = .ok (.iconst 1, 1) := by decide +kernel
theorem dL_law__1958 : decode cL_law_ 1958 = .ok (.iadd, 1) := by decide +kernel
theorem dL_law__1959 : decode cL_law_ 1959 = .ok (.iaload, 1) := by decide +kernel
theorem dL_law__1960 : decode cL_law_ 1960 = .ok (.aload_n 0, 1) := by decide +kernel
theorem dL_law__1961 : decode cL_law_ 1961 = .ok (.iload 4, 2) := by decide +kernel
theorem dL_law__1963 : decode cL_law_ 1963 = .ok (.iconst 2, 1) := by decide +kernel
theorem dL_law__1964 : decode cL_law_ 1964 = .ok (.iadd, 1) := by decide +kernel
theorem dL_law__1965 : decode cL_law_ 1965 = .ok (.iaload, 1) := by decide +kernel
theorem dL_law__1966 : decode cL_law_ 1966 = .ok (.aload_n 3, 1) := by decide +kernel
theorem dL_law__1967 : decode cL_law_ 1967 = .ok (.invokestatic 224, 3) := by decide +kernel
theorem dL_law__1970 : decode cL_law_ 1970 = .ok (.istore 5, 2) := by decide +kernel
theorem dL_law__1972 : decode cL_law_ 1972 = .ok (.aload_n 2, 1) := by decide +kernel
theorem dL_law__1973 : decode cL_law_ 1973 = .ok (.aload_n 0, 1) := by decide +kernel
theorem dL_law__1974 : decode cL_law_ 1974 = .ok (.iload 4, 2) := by decide +kernel
theorem dL_law__1976 : decode cL_law_ 1976 = .ok (.iconst 1, 1) := by decide +kernel
theorem dL_law__1977 : decode cL_law_ 1977 = .ok (.iadd, 1) := by decide +kernel
theorem dL_law__1978 : decode cL_law_ 1978 = .ok (.iaload, 1) := by decide +kernel
theorem dL_law__1979 : decode cL_law_ 1979 = .ok (.aload_n 0, 1) := by decide +kernel
theorem dL_law__1980 : decode cL_law_ 1980 = .ok (.iload 4, 2) := by decide +kernel
theorem dL_law__1982 : decode cL_law_ 1982 = .ok (.iconst 2, 1) := by decide +kernel
theorem dL_law__1983 : decode cL_law_ 1983 = .ok (.iadd, 1) := by decide +kernel
theorem dL_law__1984 : decode cL_law_ 1984 = .ok (.iaload, 1) := by decide +kernel
theorem dL_law__1985 : decode cL_law_ 1985 = .ok (.invokevirtual 226, 3) := by decide +kernel
theorem dL_law__1988 : decode cL_law_ 1988 = .ok (.istore 6, 2) := by decide +kernel
theorem dL_law__1990 : decode cL_law_ 1990 = .ok (.aload_n 2, 1) := by decide +kernel
theorem dL_law__1991 : decode cL_law_ 1991 = .ok (.invokevirtual 117, 3) := by decide +kernel
theorem dL_law__1994 : decode cL_law_ 1994 = .ok (.iload 5, 2) := by decide +kernel
theorem dL_law__1996 : decode cL_law_ 1996 = .ok (.if_icmp .eq 5, 3) := by decide +kernel
theorem dL_law__1999 : decode cL_law_ 1999 = .ok (.iconst 0, 1) := by decide +kernel
theorem dL_law__2000 : decode cL_law_ 2000 = .ok (.ireturn, 1) := by decide +kernel
theorem dL_law__2001 : decode cL_law_ 2001 = .ok (.iload 5, 2) := by decide +kernel
theorem dL_law__2003 : decode cL_law_ 2003 = .ok (.ifCond .ne 15, 3) := by decide +kernel
theorem dL_law__2006 : decode cL_law_ 2006 = .ok (.aload_n 3, 1) := by decide +kernel
theorem dL_law__2007 : decode cL_law_ 2007 = .ok (.iconst 0, 1) := by decide +kernel
theorem dL_law__2008 : decode cL_law_ 2008 = .ok (.laload, 1) := by decide +kernel
theorem dL_law__2009 : decode cL_law_ 2009 = .ok (.iload 6, 2) := by decide +kernel
theorem dL_law__2011 : decode cL_law_ 2011 = .ok (.i2l, 1) := by decide +kernel
theorem dL_law__2012 : decode cL_law_ 2012 = .ok (.lcmp, 1) := by decide +kernel
theorem dL_law__2013 : decode cL_law_ 2013 = .ok (.ifCond .eq 5, 3) := by decide +kernel
theorem dL_law__2016 : decode cL_law_ 2016 = .ok (.iconst 0, 1) := by decide +kernel
theorem dL_law__2017 : decode cL_law_ 2017 = .ok (.ireturn, 1) := by decide +kernel
theorem dL_law__2018 : decode cL_law_ 2018 = .ok (.goto 120, 3) := by decide +kernel
theorem dL_law__2021 : decode cL_law_ 2021 = .ok (.aload_n 1, 1) := by decide +kernel
theorem dL_law__2022 : decode cL_law_ 2022 = .ok (.aload_n 0, 1) := by decide +kernel
theorem dL_law__2023 : decode cL_law_ 2023 = .ok (.iload 4, 2) := by decide +kernel
theorem dL_law__2025 : decode cL_law_ 2025 = .ok (.iconst 1, 1) := by decide +kernel
theorem dL_law__2026 : decode cL_law_ 2026 = .ok (.iadd, 1) := by decide +kernel
theorem dL_law__2027 : decode cL_law_ 2027 = .ok (.iaload, 1) := by decide +kernel
theorem dL_law__2028 : decode cL_law_ 2028 = .ok (.aload_n 0, 1) := by decide +kernel
theorem dL_law__2029 : decode cL_law_ 2029 = .ok (.iload 4, 2) := by decide +kernel
theorem dL_law__2031 : decode cL_law_ 2031 = .ok (.iconst 2, 1) := by decide +kernel
theorem dL_law__2032 : decode cL_law_ 2032 = .ok (.iadd, 1) := by decide +kernel
theorem dL_law__2033 : decode cL_law_ 2033 = .ok (.iaload, 1) := by decide +kernel
theorem dL_law__2034 : decode cL_law_ 2034 = .ok (.aload_n 3, 1) := by decide +kernel
theorem dL_law__2035 : decode cL_law_ 2035 = .ok (.invokestatic 227, 3) := by decide +kernel
theorem dL_law__2038 : decode cL_law_ 2038 = .ok (.istore 5, 2) := by decide +kernel
theorem dL_law__2040 : decode cL_law_ 2040 = .ok (.aload_n 2, 1) := by decide +kernel
theorem dL_law__2041 : decode cL_law_ 2041 = .ok (.aload_n 0, 1) := by decide +kernel
theorem dL_law__2042 : decode cL_law_ 2042 = .ok (.iload 4, 2) := by decide +kernel
theorem dL_law__2044 : decode cL_law_ 2044 = .ok (.iconst 1, 1) := by decide +kernel
theorem dL_law__2045 : decode cL_law_ 2045 = .ok (.iadd, 1) := by decide +kernel
theorem dL_law__2046 : decode cL_law_ 2046 = .ok (.iaload, 1) := by decide +kernel
theorem dL_law__2047 : decode cL_law_ 2047 = .ok (.aload_n 0, 1) := by decide +kernel
theorem dL_law__2048 : decode cL_law_ 2048 = .ok (.iload 4, 2) := by decide +kernel
theorem dL_law__2050 : decode cL_law_ 2050 = .ok (.iconst 2, 1) := by decide +kernel
theorem dL_law__2051 : decode cL_law_ 2051 = .ok (.iadd, 1) := by decide +kernel
theorem dL_law__2052 : decode cL_law_ 2052 = .ok (.iaload, 1) := by decide +kernel
theorem dL_law__2053 : decode cL_law_ 2053 = .ok (.invokevirtual 229, 3) := by decide +kernel
theorem dL_law__2056 : decode cL_law_ 2056 = .ok (.istore 6, 2) := by decide +kernel
theorem dL_law__2058 : decode cL_law_ 2058 = .ok (.aload_n 2, 1) := by decide +kernel
theorem dL_law__2059 : decode cL_law_ 2059 = .ok (.invokevirtual 117, 3) := by decide +kernel
theorem dL_law__2062 : decode cL_law_ 2062 = .ok (.iload 5, 2) := by decide +kernel
theorem dL_law__2064 : decode cL_law_ 2064 = .ok (.if_icmp .eq 5, 3) := by decide +kernel
theorem dL_law__2067 : decode cL_law_ 2067 = .ok (.iconst 0, 1) := by decide +kernel
theorem dL_law__2068 : decode cL_law_ 2068 = .ok (.ireturn, 1) := by decide +kernel
theorem dL_law__2069 : decode cL_law_ 2069 = .ok (.iload 5, 2) := by decide +kernel
theorem dL_law__2071 : decode cL_law_ 2071 = .ok (.ifCond .ne 15, 3) := by decide +kernel
theorem dL_law__2074 : decode cL_law_ 2074 = .ok (.aload_n 3, 1) := by decide +kernel
theorem dL_law__2075 : decode cL_law_ 2075 = .ok (.iconst 0, 1) := by decide +kernel
theorem dL_law__2076 : decode cL_law_ 2076 = .ok (.laload, 1) := by decide +kernel
theorem dL_law__2077 : decode cL_law_ 2077 = .ok (.iload 6, 2) := by decide +kernel
theorem dL_law__2079 : decode cL_law_ 2079 = .ok (.i2l, 1) := by decide +kernel
theorem dL_law__2080 : decode cL_law_ 2080 = .ok (.lcmp, 1) := by decide +kernel
theorem dL_law__2081 : decode cL_law_ 2081 = .ok (.ifCond .eq 5, 3) := by decide +kernel
theorem dL_law__2084 : decode cL_law_ 2084 = .ok (.iconst 0, 1) := by decide +kernel
theorem dL_law__2085 : decode cL_law_ 2085 = .ok (.ireturn, 1) := by decide +kernel
theorem dL_law__2086 : decode cL_law_ 2086 = .ok (.goto 52, 3) := by decide +kernel
theorem dL_law__2089 : decode cL_law_ 2089 = .ok (.aload_n 1, 1) := by decide +kernel
theorem dL_law__2090 : decode cL_law_ 2090 = .ok (.invokevirtual 230, 3) := by decide +kernel
theorem dL_law__2093 : decode cL_law_ 2093 = .ok (.aload_n 2, 1) := by decide +kernel
theorem dL_law__2094 : decode cL_law_ 2094 = .ok (.invokevirtual 233, 3) := by decide +kernel
theorem dL_law__2097 : decode cL_law_ 2097 = .ok (.goto 41, 3) := by decide +kernel
theorem dL_law__2100 : decode cL_law_ 2100 = .ok (.aload_n 1, 1) := by decide +kernel
theorem dL_law__2101 : decode cL_law_ 2101 = .ok (.invokevirtual 234, 3) := by decide +kernel
theorem dL_law__2104 : decode cL_law_ 2104 = .ok (.aload_n 2, 1) := by decide +kernel
theorem dL_law__2105 : decode cL_law_ 2105 = .ok (.invokevirtual 238, 3) := by decide +kernel
theorem dL_law__2108 : decode cL_law_ 2108 = .ok (.if_icmp .eq 30, 3) := by decide +kernel
theorem dL_law__2111 : decode cL_law_ 2111 = .ok (.iconst 0, 1) := by decide +kernel
theorem dL_law__2112 : decode cL_law_ 2112 = .ok (.ireturn, 1) := by decide +kernel
theorem dL_law__2113 : decode cL_law_ 2113 = .ok (.aload_n 1, 1) := by decide +kernel
theorem dL_law__2114 : decode cL_law_ 2114 = .ok (.aload_n 0, 1) := by decide +kernel
theorem dL_law__2115 : decode cL_law_ 2115 = .ok (.iload 4, 2) := by decide +kernel
theorem dL_law__2117 : decode cL_law_ 2117 = .ok (.iconst 1, 1) := by decide +kernel
theorem dL_law__2118 : decode cL_law_ 2118 = .ok (.iadd, 1) := by decide +kernel
theorem dL_law__2119 : decode cL_law_ 2119 = .ok (.iaload, 1) := by decide +kernel
theorem dL_law__2120 : decode cL_law_ 2120 = .ok (.invokevirtual 239, 3) := by decide +kernel
theorem dL_law__2123 : decode cL_law_ 2123 = .ok (.aload_n 2, 1) := by decide +kernel
theorem dL_law__2124 : decode cL_law_ 2124 = .ok (.aload_n 0, 1) := by decide +kernel
theorem dL_law__2125 : decode cL_law_ 2125 = .ok (.iload 4, 2) := by decide +kernel
theorem dL_law__2127 : decode cL_law_ 2127 = .ok (.iconst 1, 1) := by decide +kernel
theorem dL_law__2128 : decode cL_law_ 2128 = .ok (.iadd, 1) := by decide +kernel
theorem dL_law__2129 : decode cL_law_ 2129 = .ok (.iaload, 1) := by decide +kernel
theorem dL_law__2130 : decode cL_law_ 2130 = .ok (.invokevirtual 242, 3) := by decide +kernel
theorem dL_law__2133 : decode cL_law_ 2133 = .ok (.if_icmp .eq 5, 3) := by decide +kernel
theorem dL_law__2136 : decode cL_law_ 2136 = .ok (.iconst 0, 1) := by decide +kernel
theorem dL_law__2137 : decode cL_law_ 2137 = .ok (.ireturn, 1) := by decide +kernel
theorem dL_law__2138 : decode cL_law_ 2138 = .ok (.iinc 4 6, 3) := by decide +kernel
theorem dL_law__2141 : decode cL_law_ 2141 = .ok (.goto (-2118), 3) := by decide +kernel
theorem dL_law__2144 : decode cL_law_ 2144 = .ok (.iconst 1, 1) := by decide +kernel
theorem dL_law__2145 : decode cL_law_ 2145 = .ok (.ireturn, 1) := by decide +kernel
