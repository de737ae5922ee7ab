theorem dX9_turns_71 : decode cX9_turns 71 = .ok (.irem, 1) := by decide +kernel
theorem dX9_turns_72 : decode cX9_turns 72 = .ok (.ifCond .ne 11, 3) := by decide +kernel
theorem dX9_turns_75 : decode cX9_turns 75 = .ok (.iload 6, 2) := by decide +kernel
theorem dX9_turns_77 : decode cX9_turns 77 = .ok (.invokestatic 50, 3) := by decide +kernel
theorem dX9_turns_80 : decode cX9_turns 80 = .ok (.goto 5, 3) := by decide +kernel
theorem dX9_turns_83 : decode cX9_turns 83 = .ok (.iload 6, 2) := by decide +kernel
theorem dX9_turns_85 : decode cX9_turns 85 = .ok (.iastore, 1) := by decide +kernel
theorem dX9_turns_86 : decode cX9_turns 86 = .ok (.aload_n 0, 1) := by decide +kernel
theorem dX9_turns_87 : decode cX9_turns 87 = .ok (.getfield 23, 3) := by decide +kernel
theorem dX9_turns_90 : decode cX9_turns 90 = .ok (.iload 4, 2) := by decide +kernel
theorem dX9_turns_92 : decode cX9_turns 92 = .ok (.iload_n 3, 1) := by decide +kernel
theorem dX9_turns_93 : decode cX9_turns 93 = .ok (.ifCond .eq 19, 3) := by decide +kernel
theorem dX9_turns_96 : decode cX9_turns 96 = .ok (.aload_n 0, 1) := by decide +kernel
theorem dX9_turns_97 : decode cX9_turns 97 = .ok (.getfield 7, 3) := by decide +kernel
theorem dX9_turns_100 : decode cX9_turns 100 = .ok (.bipush 99, 2) := by decide +kernel
theorem dX9_turns_102 : decode cX9_turns 102 = .ok (.iload_n 1, 1) := by decide +kernel
theorem dX9_turns_103 : decode cX9_turns 103 = .ok (.iadd, 1) := by decide +kernel
theorem dX9_turns_104 : decode cX9_turns 104 = .ok (.iaload, 1) := by decide +kernel
theorem dX9_turns_105 : decode cX9_turns 105 = .ok (.ifCond .ne 7, 3) := by decide +kernel
theorem dX9_turns_108 : decode cX9_turns 108 = .ok (.iconst 0, 1) := by decide +kernel
theorem dX9_turns_109 : decode cX9_turns 109 = .ok (.goto 17, 3) := by decide +kernel
theorem dX9_turns_112 : decode cX9_turns 112 = .ok (.aload_n 0, 1) := by decide +kernel
theorem dX9_turns_113 : decode cX9_turns 113 = .ok (.getfield 7, 3) := by decide +kernel
theorem dX9_turns_116 : decode cX9_turns 116 = .ok (.bipush 51, 2) := by decide +kernel
theorem dX9_turns_118 : decode cX9_turns 118 = .ok (.iconst 4, 1) := by decide +kernel
theorem dX9_turns_119 : decode cX9_turns 119 = .ok (.iload_n 1, 1) := by decide +kernel
theorem dX9_turns_120 : decode cX9_turns 120 = .ok (.imul, 1) := by decide +kernel
theorem dX9_turns_121 : decode cX9_turns 121 = .ok (.iadd, 1) := by decide +kernel
theorem dX9_turns_122 : decode cX9_turns 122 = .ok (.iload 5, 2) := by decide +kernel
theorem dX9_turns_124 : decode cX9_turns 124 = .ok (.iadd, 1) := by decide +kernel
theorem dX9_turns_125 : decode cX9_turns 125 = .ok (.iaload, 1) := by decide +kernel
theorem dX9_turns_126 : decode cX9_turns 126 = .ok (.iastore, 1) := by decide +kernel
theorem dX9_turns_127 : decode cX9_turns 127 = .ok (.iinc 4 1, 3) := by decide +kernel
theorem dX9_turns_130 : decode cX9_turns 130 = .ok (.goto (-116), 3) := by decide +kernel
theorem dX9_turns_133 : decode cX9_turns 133 = .ok (.iconst 0, 1) := by decide +kernel
theorem dX9_turns_134 : decode cX9_turns 134 = .ok (.istore 4, 2) := by decide +kernel
theorem dX9_turns_136 : decode cX9_turns 136 = .ok (.iload 4, 2) := by decide +kernel
theorem dX9_turns_138 : decode cX9_turns 138 = .ok (.iload_n 2, 1) := by decide +kernel
theorem dX9_turns_139 : decode cX9_turns 139 = .ok (.iconst 4, 1) := by decide +kernel
theorem dX9_turns_140 : decode cX9_turns 140 = .ok (.irem, 1) := by decide +kernel
theorem dX9_turns_141 : decode cX9_turns 141 = .ok (.if_icmp .ge 119, 3) := by decide +kernel
theorem dX9_turns_144 : decode cX9_turns 144 = .ok (.aload_n 0, 1) := by decide +kernel
theorem dX9_turns_145 : decode cX9_turns 145 = .ok (.getfield 20, 3) := by decide +kernel
theorem dX9_turns_148 : decode cX9_turns 148 = .ok (.iconst 0, 1) := by decide +kernel
theorem dX9_turns_149 : decode cX9_turns 149 = .ok (.iaload, 1) := by decide +kernel
theorem dX9_turns_150 : decode cX9_turns 150 = .ok (.istore 5, 2) := by decide +kernel
theorem dX9_turns_152 : decode cX9_turns 152 = .ok (.aload_n 0, 1) := by decide +kernel
theorem dX9_turns_153 : decode cX9_turns 153 = .ok (.getfield 20, 3) := by decide +kernel
theorem dX9_turns_156 : decode cX9_turns 156 = .ok (.iconst 0, 1) := by decide +kernel
theorem dX9_turns_157 : decode cX9_turns 157 = .ok (.aload_n 0, 1) := by decide +kernel
theorem dX9_turns_158 : decode cX9_turns 158 = .ok (.getfield 20, 3) := by decide +kernel
theorem dX9_turns_161 : decode cX9_turns 161 = .ok (.iconst 3, 1) := by decide +kernel
theorem dX9_turns_162 : decode cX9_turns 162 = .ok (.iaload, 1) := by decide +kernel
theorem dX9_turns_163 : decode cX9_turns 163 = .ok (.invokestatic 50, 3) := by decide +kernel
theorem dX9_turns_166 : decode cX9_turns 166 = .ok (.iastore, 1) := by decide +kernel
theorem dX9_turns_167 : decode cX9_turns 167 = .ok (.aload_n 0, 1) := by decide +kernel
theorem dX9_turns_168 : decode cX9_turns 168 = .ok (.getfield 20, 3) := by decide +kernel
theorem dX9_turns_171 : decode cX9_turns 171 = .ok (.iconst 3, 1) := by decide +kernel
theorem dX9_turns_172 : decode cX9_turns 172 = .ok (.aload_n 0, 1) := by decide +kernel
theorem dX9_turns_173 : decode cX9_turns 173 = .ok (.getfield 20, 3) := by decide +kernel
theorem dX9_turns_176 : decode cX9_turns 176 = .ok (.iconst 2, 1) := by decide +kernel
theorem dX9_turns_177 : decode cX9_turns 177 = .ok (.iaload, 1) := by decide +kernel
theorem dX9_turns_178 : decode cX9_turns 178 = .ok (.iastore, 1) := by decide +kernel
theorem dX9_turns_179 : decode cX9_turns 179 = .ok (.aload_n 0, 1) := by decide +kernel
theorem dX9_turns_180 : decode cX9_turns 180 = .ok (.getfield 20, 3) := by decide +kernel
theorem dX9_turns_183 : decode cX9_turns 183 = .ok (.iconst 2, 1) := by decide +kernel
theorem dX9_turns_184 : decode cX9_turns 184 = .ok (.aload_n 0, 1) := by decide +kernel
theorem dX9_turns_185 : decode cX9_turns 185 = .ok (.getfield 20, 3) := by decide +kernel
theorem dX9_turns_188 : decode cX9_turns 188 = .ok (.iconst 1, 1) := by decide +kernel
theorem dX9_turns_189 : decode cX9_turns 189 = .ok (.iaload, 1) := by decide +kernel
theorem dX9_turns_190 : decode cX9_turns 190 = .ok (.invokestatic 50, 3) := by decide +kernel
theorem dX9_turns_193 : decode cX9_turns 193 = .ok (.iastore, 1) := by decide +kernel
theorem dX9_turns_194 : decode cX9_turns 194 = .ok (.aload_n 0, 1) := by decide +kernel
theorem dX9_turns_195 : decode cX9_turns 195 = .ok (.getfield 20, 3) := by decide +kernel
theorem dX9_turns_198 : decode cX9_turns 198 = .ok (.iconst 1, 1) := by decide +kernel
theorem dX9_turns_199 : decode cX9_turns 199 = .ok (.iload 5, 2) := by decide +kernel
theorem dX9_turns_201 : decode cX9_turns 201 = .ok (.iastore, 1) := by decide +kernel
theorem dX9_turns_202 : decode cX9_turns 202 = .ok (.aload_n 0, 1) := by decide +kernel
theorem dX9_turns_203 : decode cX9_turns 203 = .ok (.getfield 23, 3) := by decide +kernel
theorem dX9_turns_206 : decode cX9_turns 206 = .ok (.iconst 0, 1) := by decide +kernel
theorem dX9_turns_207 : decode cX9_turns 207 = .ok (.iaload, 1) := by decide +kernel
theorem dX9_turns_208 : decode cX9_turns 208 = .ok (.istore 6, 2) := by decide +kernel
theorem dX9_turns_210 : decode cX9_turns 210 = .ok (.aload_n 0, 1) := by decide +kernel
theorem dX9_turns_211 : decode cX9_turns 211 = .ok (.getfield 23, 3) := by decide +kernel
theorem dX9_turns_214 : decode cX9_turns 214 = .ok (.iconst 0, 1) := by decide +kernel
theorem dX9_turns_215 : decode cX9_turns 215 = .ok (.aload_n 0, 1) := by decide +kernel
theorem dX9_turns_216 : decode cX9_turns 216 = .ok (.getfield 23, 3) := by decide +kernel
theorem dX9_turns_219 : decode cX9_turns 219 = .ok (.iconst 3, 1) := by decide +kernel
theorem dX9_turns_220 : decode cX9_turns 220 = .ok (.iaload, 1) := by decide +kernel
theorem dX9_turns_221 : decode cX9_turns 221 = .ok (.iastore, 1) := by decide +kernel
theorem dX9_turns_222 : decode cX9_turns 222 = .ok (.aload_n 0, 1) := by decide +kernel
theorem dX9_turns_223 : decode cX9_turns 223 = .ok (.getfield 23, 3) := by decide +kernel
theorem dX9_turns_226 : decode cX9_turns 226 = .ok (.iconst 3, 1) := by decide +kernel
theorem dX9_turns_227 : decode cX9_turns 227 = .ok (.aload_n 0, 1) := by decide +kernel
theorem dX9_turns_228 : decode cX9_turns 228 = .ok (.getfield 23, 3) := by decide +kernel
theorem dX9_turns_231 : decode cX9_turns 231 = .ok (.iconst 2, 1) := by decide +kernel
theorem dX9_turns_232 : decode cX9_turns 232 = .ok (.iaload, 1) := by decide +kernel
theorem dX9_turns_233 : decode cX9_turns 233 = .ok (.iastore, 1) := by decide +kernel
theorem dX9_turns_234 : decode cX9_turns 234 = .ok (.aload_n 0, 1) := by decide +kernel
theorem dX9_turns_235 : decode cX9_turns 235 = .ok (.getfield 23, 3) := by decide +kernel
theorem dX9_turns_238 : decode cX9_turns 238 = .ok (.iconst 2, 1) := by decide +kernel
theorem dX9_turns_239 : decode cX9_turns 239 = .ok (.aload_n 0, 1) := by decide +kernel
theorem dX9_turns_240 : decode cX9_turns 240 = .ok (.getfield 23, 3) := by decide +kernel
theorem dX9_turns_243 : decode cX9_turns 243 = .ok (.iconst 1, 1) := by decide +kernel
theorem dX9_turns_244 : decode cX9_turns 244 = .ok (.iaload, 1) := by decide +kernel
theorem dX9_turns_245 : decode cX9_turns 245 = .ok (.iastore, 1) := by decide +kernel
theorem dX9_turns_246 : decode cX9_turns 246 = .ok (.aload_n 0, 1) := by decide +kernel
theorem dX9_turns_247 : decode cX9_turns 247 = .ok (.getfield 23, 3) := by decide +kernel
theorem dX9_turns_250 : decode cX9_turns 250 = .ok (.iconst 1, 1) := by decide +kernel
theorem dX9_turns_251 : decode cX9_turns 251 = .ok (.iload 6, 2) := by decide +kernel
theorem dX9_turns_253 : decode cX9_turns 253 = .ok (.iastore, 1) := by decide +kernel
theorem dX9_turns_254 : decode cX9_turns 254 = .ok (.iinc 4 1, 3) := by decide +kernel
theorem dX9_turns_257 : decode cX9_turns 257 = .ok (.goto (-121), 3) := by decide +kernel
theorem dX9_turns_260 : decode cX9_turns 260 = .ok (.return_, 1) := by decide +kernel
theorem dX9_profileOf_0 : decode cX9_profileOf 0 = .ok (.aload_n 0, 1) := by decide +kernel
theorem dX9_profileOf_1 : decode cX9_profileOf 1 = .ok (.iload_n 1, 1) := by decide +kernel
theorem dX9_profileOf_2 : decode cX9_profileOf 2 = .ok (.iload_n 2, 1) := by decide +kernel
theorem dX9_profileOf_3 : decode cX9_profileOf 3 = .ok (.invokevirtual 54, 3) := by decide +kernel
theorem dX9_profileOf_6 : decode cX9_profileOf 6 = .ok (.aload_n 0, 1) := by decide +kernel
theorem dX9_profileOf_7 : decode cX9_profileOf 7 = .ok (.getfield 20, 3) := by decide +kernel
theorem dX9_profileOf_10 : decode cX9_profileOf 10 = .ok (.iload_n 3, 1) := by decide +kernel
theorem dX9_profileOf_11 : decode cX9_profileOf 11 = .ok (.iaload, 1) := by decide +kernel
theorem dX9_profileOf_12 : decode cX9_profileOf 12 = .ok (.ireturn, 1) := by decide +kernel
theorem dX9_lineOf_0 : decode cX9_lineOf 0 = .ok (.aload_n 0, 1) := by decide +kernel
theorem dX9_lineOf_1 : decode cX9_lineOf 1 = .ok (.iload_n 1, 1) := by decide +kernel
theorem dX9_lineOf_2 : decode cX9_lineOf 2 = .ok (.iload_n 2, 1) := by decide +kernel
theorem dX9_lineOf_3 : decode cX9_lineOf 3 = .ok (.invokevirtual 54, 3) := by decide +kernel
theorem dX9_lineOf_6 : decode cX9_lineOf 6 = .ok (.aload_n 0, 1) := by decide +kernel
theorem dX9_lineOf_7 : decode cX9_lineOf 7 = .ok (.getfield 23, 3) := by decide +kernel
theorem dX9_lineOf_10 : decode cX9_lineOf 10 = .ok (.iload_n 3, 1) := by decide +kernel
theorem dX9_lineOf_11 : decode cX9_lineOf 11 = .ok (.iaload, 1) := by decide +kernel
theorem dX9_lineOf_12 : decode cX9_lineOf 12 = .ok (.ireturn, 1) := by decide +kernel
theorem dX9_behind_0 : decode cX9_behind 0 = .ok (.iload_n 1, 1) := by decide +kernel
theorem dX9_behind_1 : decode cX9_behind 1 = .ok (.aload_n 0, 1) := by decide +kernel
theorem dX9_behind_2 : decode cX9_behind 2 = .ok (.getfield 7, 3) := by decide +kernel
theorem dX9_behind_5 : decode cX9_behind 5 = .ok (.iconst 0, 1) := by decide +kernel
theorem dX9_behind_6 : decode cX9_behind 6 = .ok (.iaload, 1) := by decide +kernel
theorem dX9_behind_7 : decode cX9_behind 7 = .ok (.irem, 1) := by decide +kernel
theorem dX9_behind_8 : decode cX9_behind 8 = .ok (.iload_n 2, 1) := by decide +kernel
theorem dX9_behind_9 : decode cX9_behind 9 = .ok (.iconst 1, 1) := by decide +kernel
theorem dX9_behind_10 : decode cX9_behind 10 = .ok (.if_icmp .ne 7, 3) := by decide +kernel
theorem dX9_behind_13 : decode cX9_behind 13 = .ok (.iconst 1, 1) := by decide +kernel
theorem dX9_behind_14 : decode cX9_behind 14 = .ok (.goto 13, 3) := by decide +kernel
theorem dX9_behind_17 : decode cX9_behind 17 = .ok (.iload_n 2, 1) := by decide +kernel
theorem dX9_behind_18 : decode cX9_behind 18 = .ok (.iconst 3, 1) := by decide +kernel
theorem dX9_behind_19 : decode cX9_behind 19 = .ok (.if_icmp .ne 7, 3) := by decide +kernel
theorem dX9_behind_22 : decode cX9_behind 22 = .ok (.iconst (-1), 1) := by decide +kernel
theorem dX9_behind_23 : decode cX9_behind 23 = .ok (.goto 4, 3) := by decide +kernel
theorem dX9_behind_26 : decode cX9_behind 26 = .ok (.iconst 0, 1) := by decide +kernel
theorem dX9_behind_27 : decode cX9_behind 27 = .ok (.iadd, 1) := by decide +kernel
theorem dX9_behind_28 : decode cX9_behind 28 = .ok (.istore_n 3, 1) := by decide +kernel
theorem dX9_behind_29 : decode cX9_behind 29 = .ok (.iload_n 1, 1) := by decide +kernel
theorem dX9_behind_30 : decode cX9_behind 30 = .ok (.aload_n 0, 1) := by decide +kernel
theorem dX9_behind_31 : decode cX9_behind 31 = .ok (.getfield 7, 3) := by decide +kernel
theorem dX9_behind_34 : decode cX9_behind 34 = .ok (.iconst 0, 1) := by decide +kernel
theorem dX9_behind_35 : decode cX9_behind 35 = .ok (.iaload, 1) := by decide +kernel
theorem dX9_behind_36 : decode cX9_behind 36 = .ok (.idiv, 1) := by decide +kernel
theorem dX9_behind_37 : decode cX9_behind 37 = .ok (.iload_n 2, 1) := by decide +kernel
theorem dX9_behind_38 : decode cX9_behind 38 = .ok (.iconst 2, 1) := by decide +kernel
theorem dX9_behind_39 : decode cX9_behind 39 = .ok (.if_icmp .ne 7, 3) := by decide +kernel
theorem dX9_behind_42 : decode cX9_behind 42 = .ok (.iconst 1, 1) := by decide +kernel
theorem dX9_behind_43 : decode cX9_behind 43 = .ok (.goto 12, 3) := by decide +kernel
theorem dX9_behind_46 : decode cX9_behind 46 = .ok (.iload_n 2, 1) := by decide +kernel
theorem dX9_behind_47 : decode cX9_behind 47 = .ok (.ifCond .ne 7, 3) := by decide +kernel
theorem dX9_behind_50 : decode cX9_behind 50 = .ok (.iconst (-1), 1) := by decide +kernel
theorem dX9_behind_51 : decode cX9_behind 51 = .ok (.goto 4, 3) := by decide +kernel
theorem dX9_behind_54 : decode cX9_behind 54 = .ok (.iconst 0, 1) := by decide +kernel
theorem dX9_behind_55 : decode cX9_behind 55 = .ok (.iadd, 1) := by decide +kernel
theorem dX9_behind_56 : decode cX9_behind 56 = .ok (.istore 4, 2) := by decide +kernel
theorem dX9_behind_58 : decode cX9_behind 58 = .ok (.iload_n 3, 1) := by decide +kernel
theorem dX9_behind_59 : decode cX9_behind 59 = .ok (.iconst 0, 1) := by decide +kernel
theorem dX9_behind_60 : decode cX9_behind 60 = .ok (.aload_n 0, 1) := by decide +kernel
theorem dX9_behind_61 : decode cX9_behind 61 = .ok (.getfield 7, 3) := by decide +kernel
theorem dX9_behind_64 : decode cX9_behind 64 = .ok (.iconst 0, 1) := by decide +kernel
theorem dX9_behind_65 : decode cX9_behind 65 = .ok (.iaload, 1) := by decide +kernel
theorem dX9_behind_66 : decode cX9_behind 66 = .ok (.iconst 1, 1) := by decide +kernel
theorem dX9_behind_67 : decode cX9_behind 67 = .ok (.isub, 1) := by decide +kernel
theorem dX9_behind_68 : decode cX9_behind 68 = .ok (.invokestatic 38, 3) := by decide +kernel
theorem dX9_behind_71 : decode cX9_behind 71 = .ok (.ifCond .eq 34, 3) := by decide +kernel
theorem dX9_behind_74 : decode cX9_behind 74 = .ok (.iload 4, 2) := by decide +kernel
theorem dX9_behind_76 : decode cX9_behind 76 = .ok (.iconst 0, 1) := by decide +kernel
theorem dX9_behind_77 : decode cX9_behind 77 = .ok (.aload_n 0, 1) := by decide +kernel
theorem dX9_behind_78 : decode cX9_behind 78 = .ok (.getfield 7, 3) := by decide +kernel
theorem dX9_behind_81 : decode cX9_behind 81 = .ok (.iconst 1, 1) := by decide +kernel
theorem dX9_behind_82 : decode cX9_behind 82 = .ok (.iaload, 1) := by decide +kernel
theorem dX9_behind_83 : decode cX9_behind 83 = .ok (.iconst 1, 1) := by decide +kernel
theorem dX9_behind_84 : decode cX9_behind 84 = .ok (.isub, 1) := by decide +kernel
theorem dX9_behind_85 : decode cX9_behind 85 = .ok (.invokestatic 38, 3) := by decide +kernel
theorem dX9_behind_88 : decode cX9_behind 88 = .ok (.ifCond .eq 17, 3) := by decide +kernel
theorem dX9_behind_91 : decode cX9_behind 91 = .ok (.iload 4, 2) := by decide +kernel
theorem dX9_behind_93 : decode cX9_behind 93 = .ok (.aload_n 0, 1) := by decide +kernel
theorem dX9_behind_94 : decode cX9_behind 94 = .ok (.getfield 7, 3) := by decide +kernel
theorem dX9_behind_97 : decode cX9_behind 97 = .ok (.iconst 0, 1) := by decide +kernel
theorem dX9_behind_98 : decode cX9_behind 98 = .ok (.iaload, 1) := by decide +kernel
theorem dX9_behind_99 : decode cX9_behind 99 = .ok (.imul, 1) := by decide +kernel
theorem dX9_behind_100 : decode cX9_behind 100 = .ok (.iload_n 3, 1) := by decide +kernel
theorem dX9_behind_101 : decode cX9_behind 101 = .ok (.iadd, 1) := by decide +kernel
theorem dX9_behind_102 : decode cX9_behind 102 = .ok (.goto 4, 3) := by decide +kernel
theorem dX9_behind_105 : decode cX9_behind 105 = .ok (.iconst (-1), 1) := by decide +kernel
theorem dX9_behind_106 : decode cX9_behind 106 = .ok (.ireturn, 1) := by decide +kernel
theorem dX9_scrapAt_0 : decode cX9_scrapAt 0 = .ok (.iconst 0, 1) := by decide +kernel
theorem dX9_scrapAt_1 : decode cX9_scrapAt 1 = .ok (.istore_n 2, 1) := by decide +kernel
theorem dX9_scrapAt_2 : decode cX9_scrapAt 2 = .ok (.iload_n 2, 1) := by decide +kernel
theorem dX9_scrapAt_3 : decode cX9_scrapAt 3 = .ok (.aload_n 0, 1) := by decide +kernel
theorem dX9_scrapAt_4 : decode cX9_scrapAt 4 = .ok (.getfield 7, 3) := by decide +kernel
theorem dX9_scrapAt_7 : decode cX9_scrapAt 7 = .ok (.iconst 2, 1) := by decide +kernel
theorem dX9_scrapAt_8 : decode cX9_scrapAt 8 = .ok (.iaload, 1) := by decide +kernel
theorem dX9_scrapAt_9 : decode cX9_scrapAt 9 = .ok (.if_icmp .ge 24, 3) := by decide +kernel
theorem dX9_scrapAt_12 : decode cX9_scrapAt 12 = .ok (.aload_n 0, 1) := by decide +kernel
theorem dX9_scrapAt_13 : decode cX9_scrapAt 13 = .ok (.getfield 7, 3) := by decide +kernel
theorem dX9_scrapAt_16 : decode cX9_scrapAt 16 = .ok (.bipush 123, 2) := by decide +kernel
theorem dX9_scrapAt_18 : decode cX9_scrapAt 18 = .ok (.iload_n 2, 1) := by decide +kernel
theorem dX9_scrapAt_19 : decode cX9_scrapAt 19 = .ok (.iadd, 1) := by decide +kernel
theorem dX9_scrapAt_20 : decode cX9_scrapAt 20 = .ok (.iaload, 1) := by decide +kernel
theorem dX9_scrapAt_21 : decode cX9_scrapAt 21 = .ok (.iload_n 1, 1) := by decide +kernel
theorem dX9_scrapAt_22 : decode cX9_scrapAt 22 = .ok (.if_icmp .ne 5, 3) := by decide +kernel
theorem dX9_scrapAt_25 : decode cX9_scrapAt 25 = .ok (.iload_n 2, 1) := by decide +kernel
theorem dX9_scrapAt_26 : decode cX9_scrapAt 26 = .ok (.ireturn, 1) := by decide +kernel
theorem dX9_scrapAt_27 : decode cX9_scrapAt 27 = .ok (.iinc 2 1, 3) := by decide +kernel
theorem dX9_scrapAt_30 : decode cX9_scrapAt 30 = .ok (.goto (-28), 3) := by decide +kernel
theorem dX9_scrapAt_33 : decode cX9_scrapAt 33 = .ok (.iconst (-1), 1) := by decide +kernel
theorem dX9_scrapAt_34 : decode cX9_scrapAt 34 = .ok (.ireturn, 1) := by decide +kernel
theorem dX9_reasonOf_0 : decode cX9_reasonOf 0 = .ok (.aload_n 0, 1) := by decide +kernel
theorem dX9_reasonOf_1 : decode cX9_reasonOf 1 = .ok (.iload_n 1, 1) := by decide +kernel
theorem dX9_reasonOf_2 : decode cX9_reasonOf 2 = .ok (.iload_n 3, 1) := by decide +kernel
theorem dX9_reasonOf_3 : decode cX9_reasonOf 3 = .ok (.iload 4, 2) := by decide +kernel
theorem dX9_reasonOf_5 : decode cX9_reasonOf 5 = .ok (.invokevirtual 58, 3) := by decide +kernel
theorem dX9_reasonOf_8 : decode cX9_reasonOf 8 = .ok (.istore 5, 2) := by decide +kernel
theorem dX9_reasonOf_10 : decode cX9_reasonOf 10 = .ok (.aload_n 0, 1) := by decide +kernel
theorem dX9_reasonOf_11 : decode cX9_reasonOf 11 = .ok (.iload_n 2, 1) := by decide +kernel
theorem dX9_reasonOf_12 : decode cX9_reasonOf 12 = .ok (.iload 4, 2) := by decide +kernel
theorem dX9_reasonOf_14 : decode cX9_reasonOf 14 = .ok (.invokevirtual 62, 3) := by decide +kernel
theorem dX9_reasonOf_17 : decode cX9_reasonOf 17 = .ok (.istore 6, 2) := by decide +kernel
theorem dX9_reasonOf_19 : decode cX9_reasonOf 19 = .ok (.iload 6, 2) := by decide +kernel
theorem dX9_reasonOf_21 : decode cX9_reasonOf 21 = .ok (.iconst (-1), 1) := by decide +kernel
theorem dX9_reasonOf_22 : decode cX9_reasonOf 22 = .ok (.if_icmp .ne 15, 3) := by decide +kernel
theorem dX9_reasonOf_25 : decode cX9_reasonOf 25 = .ok (.iload 5, 2) := by decide +kernel
theorem dX9_reasonOf_27 : decode cX9_reasonOf 27 = .ok (.iconst (-1), 1) := by decide +kernel
theorem dX9_reasonOf_28 : decode cX9_reasonOf 28 = .ok (.if_icmp .ne 7, 3) := by decide +kernel
theorem dX9_reasonOf_31 : decode cX9_reasonOf 31 = .ok (.iconst 0, 1) := by decide +kernel
theorem dX9_reasonOf_32 : decode cX9_reasonOf 32 = .ok (.goto 4, 3) := by decide +kernel
theorem dX9_reasonOf_35 : decode cX9_reasonOf 35 = .ok (.iconst 4, 1) := by decide +kernel
theorem dX9_reasonOf_36 : decode cX9_reasonOf 36 = .ok (.ireturn, 1) := by decide +kernel
theorem dX9_reasonOf_37 : decode cX9_reasonOf 37 = .ok (.aload_n 0, 1) := by decide +kernel
theorem dX9_reasonOf_38 : decode cX9_reasonOf 38 = .ok (.iload 6, 2) := by decide +kernel
theorem dX9_reasonOf_40 : decode cX9_reasonOf 40 = .ok (.invokevirtual 66, 3) := by decide +kernel
theorem dX9_reasonOf_43 : decode cX9_reasonOf 43 = .ok (.istore 7, 2) := by decide +kernel
theorem dX9_reasonOf_45 : decode cX9_reasonOf 45 = .ok (.iload 7, 2) := by decide +kernel
theorem dX9_reasonOf_47 : decode cX9_reasonOf 47 = .ok (.iconst (-1), 1) := by decide +kernel
theorem dX9_reasonOf_48 : decode cX9_reasonOf 48 = .ok (.if_icmp .eq 9, 3) := by decide +kernel
theorem dX9_reasonOf_51 : decode cX9_reasonOf 51 = .ok (.iload 7, 2) := by decide +kernel
theorem dX9_reasonOf_53 : decode cX9_reasonOf 53 = .ok (.iload_n 1, 1) := by decide +kernel
theorem dX9_reasonOf_54 : decode cX9_reasonOf 54 = .ok (.if_icmp .ne 5, 3) := by decide +kernel
theorem dX9_reasonOf_57 : decode cX9_reasonOf 57 = .ok (.iconst (-1), 1) := by decide +kernel
theorem dX9_reasonOf_58 : decode cX9_reasonOf 58 = .ok (.ireturn, 1) := by decide +kernel
theorem dX9_reasonOf_59 : decode cX9_reasonOf 59 = .ok (.aload_n 0, 1) := by decide +kernel
theorem dX9_reasonOf_60 : decode cX9_reasonOf 60 = .ok (.getfield 23, 3) := by decide +kernel
theorem dX9_reasonOf_63 : decode cX9_reasonOf 63 = .ok (.iload 4, 2) := by decide +kernel
theorem dX9_reasonOf_65 : decode cX9_reasonOf 65 = .ok (.iaload, 1) := by decide +kernel
theorem dX9_reasonOf_66 : decode cX9_reasonOf 66 = .ok (.istore 8, 2) := by decide +kernel
theorem dX9_reasonOf_68 : decode cX9_reasonOf 68 = .ok (.iload 4, 2) := by decide +kernel
theorem dX9_reasonOf_70 : decode cX9_reasonOf 70 = .ok (.iconst 2, 1) := by decide +kernel
theorem dX9_reasonOf_71 : decode cX9_reasonOf 71 = .ok (.iadd, 1) := by decide +kernel
theorem dX9_reasonOf_72 : decode cX9_reasonOf 72 = .ok (.iconst 4, 1) := by decide +kernel
theorem dX9_reasonOf_73 : decode cX9_reasonOf 73 = .ok (.irem, 1) := by decide +kernel
theorem dX9_reasonOf_74 : decode cX9_reasonOf 74 = .ok (.istore 9, 2) := by decide +kernel
theorem dX9_reasonOf_76 : decode cX9_reasonOf 76 = .ok (.aload_n 0, 1) := by decide +kernel
theorem dX9_reasonOf_77 : decode cX9_reasonOf 77 = .ok (.iload 7, 2) := by decide +kernel
theorem dX9_reasonOf_79 : decode cX9_reasonOf 79 = .ok (.aload_n 0, 1) := by decide +kernel
theorem dX9_reasonOf_80 : decode cX9_reasonOf 80 = .ok (.getfield 7, 3) := by decide +kernel
theorem dX9_reasonOf_83 : decode cX9_reasonOf 83 = .ok (.bipush 111, 2) := by decide +kernel
theorem dX9_reasonOf_85 : decode cX9_reasonOf 85 = .ok (.iload 7, 2) := by decide +kernel
theorem dX9_reasonOf_87 : decode cX9_reasonOf 87 = .ok (.iadd, 1) := by decide +kernel
theorem dX9_reasonOf_88 : decode cX9_reasonOf 88 = .ok (.iaload, 1) := by decide +kernel
theorem dX9_reasonOf_89 : decode cX9_reasonOf 89 = .ok (.iload 9, 2) := by decide +kernel
theorem dX9_reasonOf_91 : decode cX9_reasonOf 91 = .ok (.invokevirtual 58, 3) := by decide +kernel
theorem dX9_reasonOf_94 : decode cX9_reasonOf 94 = .ok (.istore 10, 2) := by decide +kernel
theorem dX9_reasonOf_96 : decode cX9_reasonOf 96 = .ok (.iload 5, 2) := by decide +kernel
theorem dX9_reasonOf_98 : decode cX9_reasonOf 98 = .ok (.iconst (-1), 1) := by decide +kernel
theorem dX9_reasonOf_99 : decode cX9_reasonOf 99 = .ok (.if_icmp .eq 9, 3) := by decide +kernel
theorem dX9_reasonOf_102 : decode cX9_reasonOf 102 = .ok (.iload 10, 2) := by decide +kernel
theorem dX9_reasonOf_104 : decode cX9_reasonOf 104 = .ok (.iconst (-1), 1) := by decide +kernel
theorem dX9_reasonOf_105 : decode cX9_reasonOf 105 = .ok (.if_icmp .ne 5, 3) := by decide +kernel
theorem dX9_reasonOf_108 : decode cX9_reasonOf 108 = .ok (.iconst 1, 1) := by decide +kernel
theorem dX9_reasonOf_109 : decode cX9_reasonOf 109 = .ok (.ireturn, 1) := by decide +kernel
theorem dX9_reasonOf_110 : decode cX9_reasonOf 110 = .ok (.iload 5, 2) := by decide +kernel
theorem dX9_reasonOf_112 : decode cX9_reasonOf 112 = .ok (.iload 10, 2) := by decide +kernel
theorem dX9_reasonOf_114 : decode cX9_reasonOf 114 = .ok (.iadd, 1) := by decide +kernel
theorem dX9_reasonOf_115 : decode cX9_reasonOf 115 = .ok (.sipush 999, 3) := by decide +kernel
theorem dX9_reasonOf_118 : decode cX9_reasonOf 118 = .ok (.if_icmp .eq 7, 3) := by decide +kernel
theorem dX9_reasonOf_121 : decode cX9_reasonOf 121 = .ok (.iconst 2, 1) := by decide +kernel
theorem dX9_reasonOf_122 : decode cX9_reasonOf 122 = .ok (.goto 20, 3) := by decide +kernel
theorem dX9_reasonOf_125 : decode cX9_reasonOf 125 = .ok (.iload 8, 2) := by decide +kernel
theorem dX9_reasonOf_127 : decode cX9_reasonOf 127 = .ok (.aload_n 0, 1) := by decide +kernel
theorem dX9_reasonOf_128 : decode cX9_reasonOf 128 = .ok (.getfield 23, 3) := by decide +kernel
theorem dX9_reasonOf_131 : decode cX9_reasonOf 131 = .ok (.iload 9, 2) := by decide +kernel
theorem dX9_reasonOf_133 : decode cX9_reasonOf 133 = .ok (.iaload, 1) := by decide +kernel
theorem dX9_reasonOf_134 : decode cX9_reasonOf 134 = .ok (.if_icmp .eq 7, 3) := by decide +kernel
theorem dX9_reasonOf_137 : decode cX9_reasonOf 137 = .ok (.iconst 3, 1) := by decide +kernel
theorem dX9_reasonOf_138 : decode cX9_reasonOf 138 = .ok (.goto 4, 3) := by decide +kernel
theorem dX9_reasonOf_141 : decode cX9_reasonOf 141 = .ok (.iconst 0, 1) := by decide +kernel
theorem dX9_reasonOf_142 : decode cX9_reasonOf 142 = .ok (.ireturn, 1) := by decide +kernel
theorem dX9_fits_0 : decode cX9_fits 0 = .ok (.iconst 0, 1) := by decide +kernel
theorem dX9_fits_1 : decode cX9_fits 1 = .ok (.istore 5, 2) := by decide +kernel
theorem dX9_fits_3 : decode cX9_fits 3 = .ok (.iconst 0, 1) := by decide +kernel
theorem dX9_fits_4 : decode cX9_fits 4 = .ok (.istore 6, 2) := by decide +kernel
theorem dX9_fits_6 : decode cX9_fits 6 = .ok (.iload 6, 2) := by decide +kernel
theorem dX9_fits_8 : decode cX9_fits 8 = .ok (.iconst 4, 1) := by decide +kernel
theorem dX9_fits_9 : decode cX9_fits 9 = .ok (.if_icmp .ge 51, 3) := by decide +kernel
theorem dX9_fits_12 : decode cX9_fits 12 = .ok (.aload_n 0, 1) := by decide +kernel
theorem dX9_fits_13 : decode cX9_fits 13 = .ok (.iload_n 1, 1) := by decide +kernel
theorem dX9_fits_14 : decode cX9_fits 14 = .ok (.iload_n 2, 1) := by decide +kernel
theorem dX9_fits_15 : decode cX9_fits 15 = .ok (.iload_n 3, 1) := by decide +kernel
theorem dX9_fits_16 : decode cX9_fits 16 = .ok (.iload 6, 2) := by decide +kernel
theorem dX9_fits_18 : decode cX9_fits 18 = .ok (.invokevirtual 69, 3) := by decide +kernel
theorem dX9_fits_21 : decode cX9_fits 21 = .ok (.istore 7, 2) := by decide +kernel
theorem dX9_fits_23 : decode cX9_fits 23 = .ok (.iload 5, 2) := by decide +kernel
theorem dX9_fits_25 : decode cX9_fits 25 = .ok (.iload 7, 2) := by decide +kernel
theorem dX9_fits_27 : decode cX9_fits 27 = .ok (.iconst (-1), 1) := by decide +kernel
theorem dX9_fits_28 : decode cX9_fits 28 = .ok (.if_icmp .eq 22, 3) := by decide +kernel
theorem dX9_fits_31 : decode cX9_fits 31 = .ok (.iload 7, 2) := by decide +kernel
theorem dX9_fits_33 : decode cX9_fits 33 = .ok (.ifCond .ne 7, 3) := by decide +kernel
theorem dX9_fits_36 : decode cX9_fits 36 = .ok (.iconst 1, 1) := by decide +kernel
theorem dX9_fits_37 : decode cX9_fits 37 = .ok (.goto 4, 3) := by decide +kernel
theorem dX9_fits_40 : decode cX9_fits 40 = .ok (.iconst 0, 1) := by decide +kernel
theorem dX9_fits_41 : decode cX9_fits 41 = .ok (.iload 4, 2) := by decide +kernel
theorem dX9_fits_43 : decode cX9_fits 43 = .ok (.if_icmp .ne 7, 3) := by decide +kernel
theorem dX9_fits_46 : decode cX9_fits 46 = .ok (.iconst 1, 1) := by decide +kernel
theorem dX9_fits_47 : decode cX9_fits 47 = .ok (.goto 4, 3) := by decide +kernel
theorem dX9_fits_50 : decode cX9_fits 50 = .ok (.iconst 0, 1) := by decide +kernel
theorem dX9_fits_51 : decode cX9_fits 51 = .ok (.iadd, 1) := by decide +kernel
theorem dX9_fits_52 : decode cX9_fits 52 = .ok (.istore 5, 2) := by decide +kernel
theorem dX9_fits_54 : decode cX9_fits 54 = .ok (.iinc 6 1, 3) := by decide +kernel
theorem dX9_fits_57 : decode cX9_fits 57 = .ok (.goto (-51), 3) := by decide +kernel
theorem dX9_fits_60 : decode cX9_fits 60 = .ok (.iload 5, 2) := by decide +kernel
theorem dX9_fits_62 : decode cX9_fits 62 = .ok (.ireturn, 1) := by decide +kernel
theorem dX9_seams_0 : decode cX9_seams 0 = .ok (.iconst 0, 1) := by decide +kernel
theorem dX9_seams_1 : decode cX9_seams 1 = .ok (.istore_n 3, 1) := by decide +kernel
theorem dX9_seams_2 : decode cX9_seams 2 = .ok (.iconst 0, 1) := by decide +kernel
theorem dX9_seams_3 : decode cX9_seams 3 = .ok (.istore 4, 2) := by decide +kernel
theorem dX9_seams_5 : decode cX9_seams 5 = .ok (.iload 4, 2) := by decide +kernel
theorem dX9_seams_7 : decode cX9_seams 7 = .ok (.iconst 4, 1) := by decide +kernel
theorem dX9_seams_8 : decode cX9_seams 8 = .ok (.if_icmp .ge 56, 3) := by decide +kernel
theorem dX9_seams_11 : decode cX9_seams 11 = .ok (.aload_n 0, 1) := by decide +kernel
theorem dX9_seams_12 : decode cX9_seams 12 = .ok (.iload_n 2, 1) := by decide +kernel
theorem dX9_seams_13 : decode cX9_seams 13 = .ok (.iload 4, 2) := by decide +kernel
theorem dX9_seams_15 : decode cX9_seams 15 = .ok (.invokevirtual 62, 3) := by decide +kernel
theorem dX9_seams_18 : decode cX9_seams 18 = .ok (.istore 5, 2) := by decide +kernel
theorem dX9_seams_20 : decode cX9_seams 20 = .ok (.iload 5, 2) := by decide +kernel
theorem dX9_seams_22 : decode cX9_seams 22 = .ok (.iconst (-1), 1) := by decide +kernel
theorem dX9_seams_23 : decode cX9_seams 23 = .ok (.if_icmp .ne 7, 3) := by decide +kernel
theorem dX9_seams_26 : decode cX9_seams 26 = .ok (.iconst (-1), 1) := by decide +kernel
theorem dX9_seams_27 : decode cX9_seams 27 = .ok (.goto 9, 3) := by decide +kernel
theorem dX9_seams_30 : decode cX9_seams 30 = .ok (.aload_n 0, 1) := by decide +kernel
theorem dX9_seams_31 : decode cX9_seams 31 = .ok (.iload 5, 2) := by decide +kernel
theorem dX9_seams_33 : decode cX9_seams 33 = .ok (.invokevirtual 66, 3) := by decide +kernel
theorem dX9_seams_36 : decode cX9_seams 36 = .ok (.istore 6, 2) := by decide +kernel
theorem dX9_seams_38 : decode cX9_seams 38 = .ok (.iload_n 3, 1) := by decide +kernel
theorem dX9_seams_39 : decode cX9_seams 39 = .ok (.iload 6, 2) := by decide +kernel
theorem dX9_seams_41 : decode cX9_seams 41 = .ok (.iconst (-1), 1) := by decide +kernel
theorem dX9_seams_42 : decode cX9_seams 42 = .ok (.if_icmp .eq 9, 3) := by decide +kernel
theorem dX9_seams_45 : decode cX9_seams 45 = .ok (.iload 6, 2) := by decide +kernel
theorem dX9_seams_47 : decode cX9_seams 47 = .ok (.iload_n 1, 1) := by decide +kernel
theorem dX9_seams_48 : decode cX9_seams 48 = .ok (.if_icmp .ne 7, 3) := by decide +kernel
theorem dX9_seams_51 : decode cX9_seams 51 = .ok (.iconst 0, 1) := by decide +kernel
theorem dX9_seams_52 : decode cX9_seams 52 = .ok (.goto 4, 3) := by decide +kernel
theorem dX9_seams_55 : decode cX9_seams 55 = .ok (.iconst 1, 1) := by decide +kernel
theorem dX9_seams_56 : decode cX9_seams 56 = .ok (.iadd, 1) := by decide +kernel
theorem dX9_seams_57 : decode cX9_seams 57 = .ok (.istore_n 3, 1) := by decide +kernel
theorem dX9_seams_58 : decode cX9_seams 58 = .ok (.iinc 4 1, 3) := by decide +kernel
theorem dX9_seams_61 : decode cX9_seams 61 = .ok (.goto (-56), 3) := by decide +kernel
theorem dX9_seams_64 : decode cX9_seams 64 = .ok (.iload_n 3, 1) := by decide +kernel
theorem dX9_seams_65 : decode cX9_seams 65 = .ok (.ireturn, 1) := by decide +kernel
theorem dX9_isOn_0 : decode cX9_isOn 0 = .ok (.aload_n 0, 1) := by decide +kernel
theorem dX9_isOn_1 : decode cX9_isOn 1 = .ok (.getfield 7, 3) := by decide +kernel
theorem dX9_isOn_4 : decode cX9_isOn 4 = .ok (.bipush 123, 2) := by decide +kernel
theorem dX9_isOn_6 : decode cX9_isOn 6 = .ok (.iload_n 1, 1) := by decide +kernel
theorem dX9_isOn_7 : decode cX9_isOn 7 = .ok (.iadd, 1) := by decide +kernel
theorem dX9_isOn_8 : decode cX9_isOn 8 = .ok (.iaload, 1) := by decide +kernel
theorem dX9_isOn_9 : decode cX9_isOn 9 = .ok (.iconst (-1), 1) := by decide +kernel
theorem dX9_isOn_10 : decode cX9_isOn 10 = .ok (.if_icmp .eq 7, 3) := by decide +kernel
theorem dX9_isOn_13 : decode cX9_isOn 13 = .ok (.iconst 1, 1) := by decide +kernel
theorem dX9_isOn_14 : decode cX9_isOn 14 = .ok (.goto 4, 3) := by decide +kernel
theorem dX9_isOn_17 : decode cX9_isOn 17 = .ok (.iconst 0, 1) := by decide +kernel
theorem dX9_isOn_18 : decode cX9_isOn 18 = .ok (.ireturn, 1) := by decide +kernel
theorem dX9_reset_0 : decode cX9_reset 0 = .ok (.iload_n 1, 1) := by decide +kernel
theorem dX9_reset_1 : decode cX9_reset 1 = .ok (.iconst 1, 1) := by decide +kernel
theorem dX9_reset_2 : decode cX9_reset 2 = .ok (.bipush 6, 2) := by decide +kernel
theorem dX9_reset_4 : decode cX9_reset 4 = .ok (.invokestatic 38, 3) := by decide +kernel
theorem dX9_reset_7 : decode cX9_reset 7 = .ok (.ifCond .eq 13, 3) := by decide +kernel
theorem dX9_reset_10 : decode cX9_reset 10 = .ok (.iload_n 2, 1) := by decide +kernel
theorem dX9_reset_11 : decode cX9_reset 11 = .ok (.iconst 1, 1) := by decide +kernel
theorem dX9_reset_12 : decode cX9_reset 12 = .ok (.bipush 6, 2) := by decide +kernel
theorem dX9_reset_14 : decode cX9_reset 14 = .ok (.invokestatic 38, 3) := by decide +kernel
theorem dX9_reset_17 : decode cX9_reset 17 = .ok (.ifCond .ne 7, 3) := by decide +kernel
theorem dX9_reset_20 : decode cX9_reset 20 = .ok (.sipush (-1001), 3) := by decide +kernel
theorem dX9_reset_23 : decode cX9_reset 23 = .ok (.ireturn, 1) := by decide +kernel
theorem dX9_reset_24 : decode cX9_reset 24 = .ok (.aload_n 0, 1) := by decide +kernel
theorem dX9_reset_25 : decode cX9_reset 25 = .ok (.invokevirtual 73, 3) := by decide +kernel
theorem dX9_reset_28 : decode cX9_reset 28 = .ok (.iconst 0, 1) := by decide +kernel
theorem dX9_reset_29 : decode cX9_reset 29 = .ok (.istore_n 3, 1) := by decide +kernel
theorem dX9_reset_30 : decode cX9_reset 30 = .ok (.iconst 0, 1) := by decide +kernel
theorem dX9_reset_31 : decode cX9_reset 31 = .ok (.istore 4, 2) := by decide +kernel
theorem dX9_reset_33 : decode cX9_reset 33 = .ok (.iload 4, 2) := by decide +kernel
theorem dX9_reset_35 : decode cX9_reset 35 = .ok (.aload_n 0, 1) := by decide +kernel
theorem dX9_reset_36 : decode cX9_reset 36 = .ok (.getfield 7, 3) := by decide +kernel
theorem dX9_reset_39 : decode cX9_reset 39 = .ok (.iconst 2, 1) := by decide +kernel
theorem dX9_reset_40 : decode cX9_reset 40 = .ok (.iaload, 1) := by decide +kernel
theorem dX9_reset_41 : decode cX9_reset 41 = .ok (.if_icmp .ge 48, 3) := by decide +kernel
theorem dX9_reset_44 : decode cX9_reset 44 = .ok (.iload_n 3, 1) := by decide +kernel
theorem dX9_reset_45 : decode cX9_reset 45 = .ok (.aload_n 0, 1) := by decide +kernel
theorem dX9_reset_46 : decode cX9_reset 46 = .ok (.iload 4, 2) := by decide +kernel
theorem dX9_reset_48 : decode cX9_reset 48 = .ok (.invokevirtual 76, 3) := by decide +kernel
theorem dX9_reset_51 : decode cX9_reset 51 = .ok (.ifCond .eq 7, 3) := by decide +kernel
theorem dX9_reset_54 : decode cX9_reset 54 = .ok (.iconst 1, 1) := by decide +kernel
theorem dX9_reset_55 : decode cX9_reset 55 = .ok (.goto 4, 3) := by decide +kernel
theorem dX9_reset_58 : decode cX9_reset 58 = .ok (.iconst 0, 1) := by decide +kernel
theorem dX9_reset_59 : decode cX9_reset 59 = .ok (.iadd, 1) := by decide +kernel
theorem dX9_reset_60 : decode cX9_reset 60 = .ok (.istore_n 3, 1) := by decide +kernel
theorem dX9_reset_61 : decode cX9_reset 61 = .ok (.aload_n 0, 1) := by decide +kernel
theorem dX9_reset_62 : decode cX9_reset 62 = .ok (.getfield 7, 3) := by decide +kernel
theorem dX9_reset_65 : decode cX9_reset 65 = .ok (.bipush 123, 2) := by decide +kernel
theorem dX9_reset_67 : decode cX9_reset 67 = .ok (.iload 4, 2) := by decide +kernel
theorem dX9_reset_69 : decode cX9_reset 69 = .ok (.iadd, 1) := by decide +kernel
theorem dX9_reset_70 : decode cX9_reset 70 = .ok (.iconst (-1), 1) := by decide +kernel
theorem dX9_reset_71 : decode cX9_reset 71 = .ok (.iastore, 1) := by decide +kernel
theorem dX9_reset_72 : decode cX9_reset 72 = .ok (.aload_n 0, 1) := by decide +kernel
theorem dX9_reset_73 : decode cX9_reset 73 = .ok (.getfield 7, 3) := by decide +kernel
theorem dX9_reset_76 : decode cX9_reset 76 = .ok (.bipush 111, 2) := by decide +kernel
theorem dX9_reset_78 : decode cX9_reset 78 = .ok (.iload 4, 2) := by decide +kernel
theorem dX9_reset_80 : decode cX9_reset 80 = .ok (.iadd, 1) := by decide +kernel
theorem dX9_reset_81 : decode cX9_reset 81 = .ok (.iconst 0, 1) := by decide +kernel
theorem dX9_reset_82 : decode cX9_reset 82 = .ok (.iastore, 1) := by decide +kernel
theorem dX9_reset_83 : decode cX9_reset 83 = .ok (.iinc 4 1, 3) := by decide +kernel
theorem dX9_reset_86 : decode cX9_reset 86 = .ok (.goto (-53), 3) := by decide +kernel
theorem dX9_reset_89 : decode cX9_reset 89 = .ok (.aload_n 0, 1) := by decide +kernel
theorem dX9_reset_90 : decode cX9_reset 90 = .ok (.getfield 7, 3) := by decide +kernel
theorem dX9_reset_93 : decode cX9_reset 93 = .ok (.iconst 0, 1) := by decide +kernel
theorem dX9_reset_94 : decode cX9_reset 94 = .ok (.iload_n 1, 1) := by decide +kernel
theorem dX9_reset_95 : decode cX9_reset 95 = .ok (.iastore, 1) := by decide +kernel
theorem dX9_reset_96 : decode cX9_reset 96 = .ok (.aload_n 0, 1) := by decide +kernel
theorem dX9_reset_97 : decode cX9_reset 97 = .ok (.getfield 7, 3) := by decide +kernel
theorem dX9_reset_100 : decode cX9_reset 100 = .ok (.iconst 1, 1) := by decide +kernel
theorem dX9_reset_101 : decode cX9_reset 101 = .ok (.iload_n 2, 1) := by decide +kernel
theorem dX9_reset_102 : decode cX9_reset 102 = .ok (.iastore, 1) := by decide +kernel
theorem dX9_reset_103 : decode cX9_reset 103 = .ok (.iload_n 3, 1) := by decide +kernel
theorem dX9_reset_104 : decode cX9_reset 104 = .ok (.ireturn, 1) := by decide +kernel
theorem dX9_adds_0 : decode cX9_adds 0 = .ok (.aload_n 0, 1) := by decide +kernel
theorem dX9_adds_1 : decode cX9_adds 1 = .ok (.getfield 7, 3) := by decide +kernel
theorem dX9_adds_4 : decode cX9_adds 4 = .ok (.iconst 2, 1) := by decide +kernel
theorem dX9_adds_5 : decode cX9_adds 5 = .ok (.iaload, 1) := by decide +kernel
theorem dX9_adds_6 : decode cX9_adds 6 = .ok (.bipush 12, 2) := by decide +kernel
theorem dX9_adds_8 : decode cX9_adds 8 = .ok (.if_icmp .ne 7, 3) := by decide +kernel
theorem dX9_adds_11 : decode cX9_adds 11 = .ok (.sipush (-1003), 3) := by decide +kernel
theorem dX9_adds_14 : decode cX9_adds 14 = .ok (.ireturn, 1) := by decide +kernel
theorem dX9_adds_15 : decode cX9_adds 15 = .ok (.aload_n 0, 1) := by decide +kernel
theorem dX9_adds_16 : decode cX9_adds 16 = .ok (.invokevirtual 73, 3) := by decide +kernel
theorem dX9_adds_19 : decode cX9_adds 19 = .ok (.aload_n 0, 1) := by decide +kernel
theorem dX9_adds_20 : decode cX9_adds 20 = .ok (.getfield 7, 3) := by decide +kernel
theorem dX9_adds_23 : decode cX9_adds 23 = .ok (.iconst 2, 1) := by decide +kernel
theorem dX9_adds_24 : decode cX9_adds 24 = .ok (.iaload, 1) := by decide +kernel
theorem dX9_adds_25 : decode cX9_adds 25 = .ok (.istore_n 1, 1) := by decide +kernel
theorem dX9_adds_26 : decode cX9_adds 26 = .ok (.iconst 0, 1) := by decide +kernel
theorem dX9_adds_27 : decode cX9_adds 27 = .ok (.istore_n 2, 1) := by decide +kernel
theorem dX9_adds_28 : decode cX9_adds 28 = .ok (.iload_n 2, 1) := by decide +kernel
theorem dX9_adds_29 : decode cX9_adds 29 = .ok (.iconst 4, 1) := by decide +kernel
theorem dX9_adds_30 : decode cX9_adds 30 = .ok (.if_icmp .ge 48, 3) := by decide +kernel
theorem dX9_adds_33 : decode cX9_adds 33 = .ok (.aload_n 0, 1) := by decide +kernel
theorem dX9_adds_34 : decode cX9_adds 34 = .ok (.getfield 7, 3) := by decide +kernel
theorem dX9_adds_37 : decode cX9_adds 37 = .ok (.iconst 3, 1) := by decide +kernel
theorem dX9_adds_38 : decode cX9_adds 38 = .ok (.iconst 4, 1) := by decide +kernel
theorem dX9_adds_39 : decode cX9_adds 39 = .ok (.iload_n 1, 1) := by decide +kernel
theorem dX9_adds_40 : decode cX9_adds 40 = .ok (.imul, 1) := by decide +kernel
theorem dX9_adds_41 : decode cX9_adds 41 = .ok (.iadd, 1) := by decide +kernel
theorem dX9_adds_42 : decode cX9_adds 42 = .ok (.iload_n 2, 1) := by decide +kernel
theorem dX9_adds_43 : decode cX9_adds 43 = .ok (.iadd, 1) := by decide +kernel
theorem dX9_adds_44 : decode cX9_adds 44 = .ok (.aload_n 0, 1) := by decide +kernel
theorem dX9_adds_45 : decode cX9_adds 45 = .ok (.getfield 26, 3) := by decide +kernel
theorem dX9_adds_48 : decode cX9_adds 48 = .ok (.iload_n 2, 1) := by decide +kernel
theorem dX9_adds_49 : decode cX9_adds 49 = .ok (.iaload, 1) := by decide +kernel
theorem dX9_adds_50 : decode cX9_adds 50 = .ok (.iastore, 1) := by decide +kernel
theorem dX9_adds_51 : decode cX9_adds 51 = .ok (.aload_n 0, 1) := by decide +kernel
theorem dX9_adds_52 : decode cX9_adds 52 = .ok (.getfield 7, 3) := by decide +kernel
theorem dX9_adds_55 : decode cX9_adds 55 = .ok (.bipush 51, 2) := by decide +kernel
theorem dX9_adds_57 : decode cX9_adds 57 = .ok (.iconst 4, 1) := by decide +kernel
theorem dX9_adds_58 : decode cX9_adds 58 = .ok (.iload_n 1, 1) := by decide +kernel
theorem dX9_adds_59 : decode cX9_adds 59 = .ok (.imul, 1) := by decide +kernel
theorem dX9_adds_60 : decode cX9_adds 60 = .ok (.iadd, 1) := by decide +kernel
theorem dX9_adds_61 : decode cX9_adds 61 = .ok (.iload_n 2, 1) := by decide +kernel
theorem dX9_adds_62 : decode cX9_adds 62 = .ok (.iadd, 1) := by decide +kernel
theorem dX9_adds_63 : decode cX9_adds 63 = .ok (.aload_n 0, 1) := by decide +kernel
theorem dX9_adds_64 : decode cX9_adds 64 = .ok (.getfield 26, 3) := by decide +kernel
theorem dX9_adds_67 : decode cX9_adds 67 = .ok (.iconst 4, 1) := by decide +kernel
theorem dX9_adds_68 : decode cX9_adds 68 = .ok (.iload_n 2, 1) := by decide +kernel
theorem dX9_adds_69 : decode cX9_adds 69 = .ok (.iadd, 1) := by decide +kernel
theorem dX9_adds_70 : decode cX9_adds 70 = .ok (.iaload, 1) := by decide +kernel
theorem dX9_adds_71 : decode cX9_adds 71 = .ok (.iastore, 1) := by decide +kernel
theorem dX9_adds_72 : decode cX9_adds 72 = .ok (.iinc 2 1, 3) := by decide +kernel
theorem dX9_adds_75 : decode cX9_adds 75 = .ok (.goto (-47), 3) := by decide +kernel
theorem dX9_adds_78 : decode cX9_adds 78 = .ok (.aload_n 0, 1) := by decide +kernel
theorem dX9_adds_79 : decode cX9_adds 79 = .ok (.getfield 7, 3) := by decide +kernel
theorem dX9_adds_82 : decode cX9_adds 82 = .ok (.bipush 99, 2) := by decide +kernel
theorem dX9_adds_84 : decode cX9_adds 84 = .ok (.iload_n 1, 1) := by decide +kernel
theorem dX9_adds_85 : decode cX9_adds 85 = .ok (.iadd, 1) := by decide +kernel
theorem dX9_adds_86 : decode cX9_adds 86 = .ok (.aload_n 0, 1) := by decide +kernel
theorem dX9_adds_87 : decode cX9_adds 87 = .ok (.getfield 26, 3) := by decide +kernel
theorem dX9_adds_90 : decode cX9_adds 90 = .ok (.bipush 8, 2) := by decide +kernel
theorem dX9_adds_92 : decode cX9_adds 92 = .ok (.iaload, 1) := by decide +kernel
theorem dX9_adds_93 : decode cX9_adds 93 = .ok (.iastore, 1) := by decide +kernel
theorem dX9_adds_94 : decode cX9_adds 94 = .ok (.aload_n 0, 1) := by decide +kernel
theorem dX9_adds_95 : decode cX9_adds 95 = .ok (.getfield 7, 3) := by decide +kernel
theorem dX9_adds_98 : decode cX9_adds 98 = .ok (.bipush 111, 2) := by decide +kernel
theorem dX9_adds_100 : decode cX9_adds 100 = .ok (.iload_n 1, 1) := by decide +kernel
theorem dX9_adds_101 : decode cX9_adds 101 = .ok (.iadd, 1) := by decide +kernel
theorem dX9_adds_102 : decode cX9_adds 102 = .ok (.iconst 0, 1) := by decide +kernel
theorem dX9_adds_103 : decode cX9_adds 103 = .ok (.iastore, 1) := by decide +kernel
theorem dX9_adds_104 : decode cX9_adds 104 = .ok (.aload_n 0, 1) := by decide +kernel
theorem dX9_adds_105 : decode cX9_adds 105 = .ok (.getfield 7, 3) := by decide +kernel
theorem dX9_adds_108 : decode cX9_adds 108 = .ok (.bipush 123, 2) := by decide +kernel
theorem dX9_adds_110 : decode cX9_adds 110 = .ok (.iload_n 1, 1) := by decide +kernel
theorem dX9_adds_111 : decode cX9_adds 111 = .ok (.iadd, 1) := by decide +kernel
theorem dX9_adds_112 : decode cX9_adds 112 = .ok (.iconst (-1), 1) := by decide +kernel
theorem dX9_adds_113 : decode cX9_adds 113 = .ok (.iastore, 1) := by decide +kernel
theorem dX9_adds_114 : decode cX9_adds 114 = .ok (.aload_n 0, 1) := by decide +kernel
theorem dX9_adds_115 : decode cX9_adds 115 = .ok (.getfield 7, 3) := by decide +kernel
theorem dX9_adds_118 : decode cX9_adds 118 = .ok (.iconst 2, 1) := by decide +kernel
theorem dX9_adds_119 : decode cX9_adds 119 = .ok (.dup2, 1) := by decide +kernel
theorem dX9_adds_120 : decode cX9_adds 120 = .ok (.iaload, 1) := by decide +kernel
theorem dX9_adds_121 : decode cX9_adds 121 = .ok (.iconst 1, 1) := by decide +kernel
theorem dX9_adds_122 : decode cX9_adds 122 = .ok (.iadd, 1) := by decide +kernel
theorem dX9_adds_123 : decode cX9_adds 123 = .ok (.iastore, 1) := by decide +kernel
theorem dX9_adds_124 : decode cX9_adds 124 = .ok (.iload_n 1, 1) := by decide +kernel
theorem dX9_adds_125 : decode cX9_adds 125 = .ok (.ireturn, 1) := by decide +kernel
theorem dX9_addScrap_0 : decode cX9_addScrap 0 = .ok (.iload_n 1, 1) := by decide +kernel
theorem dX9_addScrap_1 : decode cX9_addScrap 1 = .ok (.iconst (-1), 1) := by decide +kernel
theorem dX9_addScrap_2 : decode cX9_addScrap 2 = .ok (.sipush 999, 3) := by decide +kernel
theorem dX9_addScrap_5 : decode cX9_addScrap 5 = .ok (.invokestatic 38, 3) := by decide +kernel
theorem dX9_addScrap_8 : decode cX9_addScrap 8 = .ok (.ifCond .eq 47, 3) := by decide +kernel
theorem dX9_addScrap_11 : decode cX9_addScrap 11 = .ok (.iload_n 2, 1) := by decide +kernel
theorem dX9_addScrap_12 : decode cX9_addScrap 12 = .ok (.iconst (-1), 1) := by decide +kernel
theorem dX9_addScrap_13 : decode cX9_addScrap 13 = .ok (.sipush 999, 3) := by decide +kernel
theorem dX9_addScrap_16 : decode cX9_addScrap 16 = .ok (.invokestatic 38, 3) := by decide +kernel
theorem dX9_addScrap_19 : decode cX9_addScrap 19 = .ok (.ifCond .eq 36, 3) := by decide +kernel
theorem dX9_addScrap_22 : decode cX9_addScrap 22 = .ok (.iload_n 3, 1) := by decide +kernel
theorem dX9_addScrap_23 : decode cX9_addScrap 23 = .ok (.iconst (-1), 1) := by decide +kernel
theorem dX9_addScrap_24 : decode cX9_addScrap 24 = .ok (.sipush 999, 3) := by decide +kernel
theorem dX9_addScrap_27 : decode cX9_addScrap 27 = .ok (.invokestatic 38, 3) := by decide +kernel
theorem dX9_addScrap_30 : decode cX9_addScrap 30 = .ok (.ifCond .eq 25, 3) := by decide +kernel
theorem dX9_addScrap_33 : decode cX9_addScrap 33 = .ok (.iload 4, 2) := by decide +kernel
theorem dX9_addScrap_35 : decode cX9_addScrap 35 = .ok (.iconst (-1), 1) := by decide +kernel
theorem dX9_addScrap_36 : decode cX9_addScrap 36 = .ok (.sipush 999, 3) := by decide +kernel
theorem dX9_addScrap_39 : decode cX9_addScrap 39 = .ok (.invokestatic 38, 3) := by decide +kernel
theorem dX9_addScrap_42 : decode cX9_addScrap 42 = .ok (.ifCond .eq 13, 3) := by decide +kernel
theorem dX9_addScrap_45 : decode cX9_addScrap 45 = .ok (.iload 5, 2) := by decide +kernel
theorem dX9_addScrap_47 : decode cX9_addScrap 47 = .ok (.iconst 0, 1) := by decide +kernel
theorem dX9_addScrap_48 : decode cX9_addScrap 48 = .ok (.iconst 1, 1) := by decide +kernel
theorem dX9_addScrap_49 : decode cX9_addScrap 49 = .ok (.invokestatic 38, 3) := by decide +kernel
theorem dX9_addScrap_52 : decode cX9_addScrap 52 = .ok (.ifCond .ne 7, 3) := by decide +kernel
theorem dX9_addScrap_55 : decode cX9_addScrap 55 = .ok (.sipush (-1001), 3) := by decide +kernel
theorem dX9_addScrap_58 : decode cX9_addScrap 58 = .ok (.ireturn, 1) := by decide +kernel
theorem dX9_addScrap_59 : decode cX9_addScrap 59 = .ok (.aload_n 0, 1) := by decide +kernel
theorem dX9_addScrap_60 : decode cX9_addScrap 60 = .ok (.getfield 26, 3) := by decide +kernel
theorem dX9_addScrap_63 : decode cX9_addScrap 63 = .ok (.iconst 0, 1) := by decide +kernel
theorem dX9_addScrap_64 : decode cX9_addScrap 64 = .ok (.iload_n 1, 1) := by decide +kernel
theorem dX9_addScrap_65 : decode cX9_addScrap 65 = .ok (.iastore, 1) := by decide +kernel
theorem dX9_addScrap_66 : decode cX9_addScrap 66 = .ok (.aload_n 0, 1) := by decide +kernel
theorem dX9_addScrap_67 : decode cX9_addScrap 67 = .ok (.getfield 26, 3) := by decide +kernel
theorem dX9_addScrap_70 : decode cX9_addScrap 70 = .ok (.iconst 1, 1) := by decide +kernel
theorem dX9_addScrap_71 : decode cX9_addScrap 71 = .ok (.iload_n 2, 1) := by decide +kernel
theorem dX9_addScrap_72 : decode cX9_addScrap 72 = .ok (.iastore, 1) := by decide +kernel
theorem dX9_addScrap_73 : decode cX9_addScrap 73 = .ok (.aload_n 0, 1) := by decide +kernel
theorem dX9_addScrap_74 : decode cX9_addScrap 74 = .ok (.getfield 26, 3) := by decide +kernel
theorem dX9_addScrap_77 : decode cX9_addScrap 77 = .ok (.iconst 2, 1) := by decide +kernel
theorem dX9_addScrap_78 : decode cX9_addScrap 78 = .ok (.iload_n 3, 1) := by decide +kernel
theorem dX9_addScrap_79 : decode cX9_addScrap 79 = .ok (.iastore, 1) := by decide +kernel
theorem dX9_addScrap_80 : decode cX9_addScrap 80 = .ok (.aload_n 0, 1) := by decide +kernel
theorem dX9_addScrap_81 : decode cX9_addScrap 81 = .ok (.getfield 26, 3) := by decide +kernel
theorem dX9_addScrap_84 : decode cX9_addScrap 84 = .ok (.iconst 3, 1) := by decide +kernel
theorem dX9_addScrap_85 : decode cX9_addScrap 85 = .ok (.iload 4, 2) := by decide +kernel
theorem dX9_addScrap_87 : decode cX9_addScrap 87 = .ok (.iastore, 1) := by decide +kernel
theorem dX9_addScrap_88 : decode cX9_addScrap 88 = .ok (.iconst 4, 1) := by decide +kernel
theorem dX9_addScrap_89 : decode cX9_addScrap 89 = .ok (.istore 6, 2) := by decide +kernel
theorem dX9_addScrap_91 : decode cX9_addScrap 91 = .ok (.iload 6, 2) := by decide +kernel
theorem dX9_addScrap_93 : decode cX9_addScrap 93 = .ok (.bipush 8, 2) := by decide +kernel
theorem dX9_addScrap_95 : decode cX9_addScrap 95 = .ok (.if_icmp .ge 17, 3) := by decide +kernel
theorem dX9_addScrap_98 : decode cX9_addScrap 98 = .ok (.aload_n 0, 1) := by decide +kernel
theorem dX9_addScrap_99 : decode cX9_addScrap 99 = .ok (.getfield 26, 3) := by decide +kernel
theorem dX9_addScrap_102 : decode cX9_addScrap 102 = .ok (.iload 6, 2) := by decide +kernel
theorem dX9_addScrap_104 : decode cX9_addScrap 104 = .ok (.iconst 0, 1) := by decide +kernel
theorem dX9_addScrap_105 : decode cX9_addScrap 105 = .ok (.iastore, 1) := by decide +kernel
theorem dX9_addScrap_106 : decode cX9_addScrap 106 = .ok (.iinc 6 1, 3) := by decide +kernel
theorem dX9_addScrap_109 : decode cX9_addScrap 109 = .ok (.goto (-18), 3) := by decide +kernel
theorem dX9_addScrap_112 : decode cX9_addScrap 112 = .ok (.aload_n 0, 1) := by decide +kernel
theorem dX9_addScrap_113 : decode cX9_addScrap 113 = .ok (.getfield 26, 3) := by decide +kernel
theorem dX9_addScrap_116 : decode cX9_addScrap 116 = .ok (.bipush 8, 2) := by decide +kernel
theorem dX9_addScrap_118 : decode cX9_addScrap 118 = .ok (.iload 5, 2) := by decide +kernel
theorem dX9_addScrap_120 : decode cX9_addScrap 120 = .ok (.iastore, 1) := by decide +kernel
theorem dX9_addScrap_121 : decode cX9_addScrap 121 = .ok (.aload_n 0, 1) := by decide +kernel
theorem dX9_addScrap_122 : decode cX9_addScrap 122 = .ok (.invokevirtual 80, 3) := by decide +kernel
theorem dX9_addScrap_125 : decode cX9_addScrap 125 = .ok (.ireturn, 1) := by decide +kernel
theorem dX9_add_0 : decode cX9_add 0 = .ok (.aload_n 0, 1) := by decide +kernel
theorem dX9_add_1 : decode cX9_add 1 = .ok (.invokevirtual 83, 3) := by decide +kernel
theorem dX9_add_4 : decode cX9_add 4 = .ok (.sipush (-1004), 3) := by decide +kernel
theorem dX9_add_7 : decode cX9_add 7 = .ok (.if_icmp .eq 9, 3) := by decide +kernel
theorem dX9_add_10 : decode cX9_add 10 = .ok (.sipush (-1002), 3) := by decide +kernel
theorem dX9_add_13 : decode cX9_add 13 = .ok (.goto 7, 3) := by decide +kernel
theorem dX9_add_16 : decode cX9_add 16 = .ok (.aload_n 0, 1) := by decide +kernel
theorem dX9_add_17 : decode cX9_add 17 = .ok (.invokevirtual 80, 3) := by decide +kernel
theorem dX9_add_20 : decode cX9_add 20 = .ok (.ireturn, 1) := by decide +kernel
theorem dX9_removeScrap_0 : decode cX9_removeScrap 0 = .ok (.aload_n 0, 1) := by decide +kernel
theorem dX9_removeScrap_1 : decode cX9_removeScrap 1 = .ok (.iload_n 1, 1) := by decide +kernel
theorem dX9_removeScrap_2 : decode cX9_removeScrap 2 = .ok (.invokevirtual 86, 3) := by decide +kernel
theorem dX9_removeScrap_5 : decode cX9_removeScrap 5 = .ok (.ifCond .ne 7, 3) := by decide +kernel
theorem dX9_removeScrap_8 : decode cX9_removeScrap 8 = .ok (.sipush (-1001), 3) := by decide +kernel
theorem dX9_removeScrap_11 : decode cX9_removeScrap 11 = .ok (.ireturn, 1) := by decide +kernel
theorem dX9_removeScrap_12 : decode cX9_removeScrap 12 = .ok (.aload_n 0, 1) := by decide +kernel
theorem dX9_removeScrap_13 : decode cX9_removeScrap 13 = .ok (.invokevirtual 73, 3) := by decide +kernel
theorem dX9_removeScrap_16 : decode cX9_removeScrap 16 = .ok (.aload_n 0, 1) := by decide +kernel
theorem dX9_removeScrap_17 : decode cX9_removeScrap 17 = .ok (.getfield 7, 3) := by decide +kernel
theorem dX9_removeScrap_20 : decode cX9_removeScrap 20 = .ok (.iconst 2, 1) := by decide +kernel
theorem dX9_removeScrap_21 : decode cX9_removeScrap 21 = .ok (.dup2, 1) := by decide +kernel
theorem dX9_removeScrap_22 : decode cX9_removeScrap 22 = .ok (.iaload, 1) := by decide +kernel
theorem dX9_removeScrap_23 : decode cX9_removeScrap 23 = .ok (.iconst 1, 1) := by decide +kernel
theorem dX9_removeScrap_24 : decode cX9_removeScrap 24 = .ok (.isub, 1) := by decide +kernel
theorem dX9_removeScrap_25 : decode cX9_removeScrap 25 = .ok (.iastore, 1) := by decide +kernel
theorem dX9_removeScrap_26 : decode cX9_removeScrap 26 = .ok (.iload_n 1, 1) := by decide +kernel
theorem dX9_removeScrap_27 : decode cX9_removeScrap 27 = .ok (.istore_n 2, 1) := by decide +kernel
theorem dX9_removeScrap_28 : decode cX9_removeScrap 28 = .ok (.iload_n 2, 1) := by decide +kernel
theorem dX9_removeScrap_29 : decode cX9_removeScrap 29 = .ok (.aload_n 0, 1) := by decide +kernel
theorem dX9_removeScrap_30 : decode cX9_removeScrap 30 = .ok (.getfield 7, 3) := by decide +kernel
theorem dX9_removeScrap_33 : decode cX9_removeScrap 33 = .ok (.iconst 2, 1) := by decide +kernel
theorem dX9_removeScrap_34 : decode cX9_removeScrap 34 = .ok (.iaload, 1) := by decide +kernel
theorem dX9_removeScrap_35 : decode cX9_removeScrap 35 = .ok (.if_icmp .ge 109, 3) := by decide +kernel
theorem dX9_removeScrap_38 : decode cX9_removeScrap 38 = .ok (.iconst 0, 1) := by decide +kernel
theorem dX9_removeScrap_39 : decode cX9_removeScrap 39 = .ok (.istore_n 3, 1) := by decide +kernel
theorem dX9_removeScrap_40 : decode cX9_removeScrap 40 = .ok (.iload_n 3, 1) := by decide +kernel
theorem dX9_removeScrap_41 : decode cX9_removeScrap 41 = .ok (.iconst 4, 1) := by decide +kernel
theorem dX9_removeScrap_42 : decode cX9_removeScrap 42 = .ok (.if_icmp .ge 63, 3) := by decide +kernel
theorem dX9_removeScrap_45 : decode cX9_removeScrap 45 = .ok (.aload_n 0, 1) := by decide +kernel
theorem dX9_removeScrap_46 : decode cX9_removeScrap 46 = .ok (.getfield 7, 3) := by decide +kernel
theorem dX9_removeScrap_49 : decode cX9_removeScrap 49 = .ok (.iconst 3, 1) := by decide +kernel
theorem dX9_removeScrap_50 : decode cX9_removeScrap 50 = .ok (.iconst 4, 1) := by decide +kernel
theorem dX9_removeScrap_51 : decode cX9_removeScrap 51 = .ok (.iload_n 2, 1) := by decide +kernel
theorem dX9_removeScrap_52 : decode cX9_removeScrap 52 = .ok (.imul, 1) := by decide +kernel
theorem dX9_removeScrap_53 : decode cX9_removeScrap 53 = .ok (.iadd, 1) := by decide +kernel
theorem dX9_removeScrap_54 : decode cX9_removeScrap 54 = .ok (.iload_n 3, 1) := by decide +kernel
theorem dX9_removeScrap_55 : decode cX9_removeScrap 55 = .ok (.iadd, 1) := by decide +kernel
theorem dX9_removeScrap_56 : decode cX9_removeScrap 56 = .ok (.aload_n 0, 1) := by decide +kernel
theorem dX9_removeScrap_57 : decode cX9_removeScrap 57 = .ok (.getfield 7, 3) := by decide +kernel
theorem dX9_removeScrap_60 : decode cX9_removeScrap 60 = .ok (.iconst 3, 1) := by decide +kernel
theorem dX9_removeScrap_61 : decode cX9_removeScrap 61 = .ok (.iconst 4, 1) := by decide +kernel
theorem dX9_removeScrap_62 : decode cX9_removeScrap 62 = .ok (.iload_n 2, 1) := by decide +kernel
theorem dX9_removeScrap_63 : decode cX9_removeScrap 63 = .ok (.imul, 1) := by decide +kernel
theorem dX9_removeScrap_64 : decode cX9_removeScrap 64 = .ok (.iadd, 1) := by decide +kernel
theorem dX9_removeScrap_65 : decode cX9_removeScrap 65 = .ok (.iconst 4, 1) := by decide +kernel
theorem dX9_removeScrap_66 : decode cX9_removeScrap 66 = .ok (.iadd, 1) := by decide +kernel
theorem dX9_removeScrap_67 : decode cX9_removeScrap 67 = .ok (.iload_n 3, 1) := by decide +kernel
theorem dX9_removeScrap_68 : decode cX9_removeScrap 68 = .ok (.iadd, 1) := by decide +kernel
theorem dX9_removeScrap_69 : decode cX9_removeScrap 69 = .ok (.iaload, 1) := by decide +kernel
theorem dX9_removeScrap_70 : decode cX9_removeScrap 70 = .ok (.iastore, 1) := by decide +kernel
theorem dX9_removeScrap_71 : decode cX9_removeScrap 71 = .ok (.aload_n 0, 1) := by decide +kernel
theorem dX9_removeScrap_72 : decode cX9_removeScrap 72 = .ok (.getfield 7, 3) := by decide +kernel
theorem dX9_removeScrap_75 : decode cX9_removeScrap 75 = .ok (.bipush 51, 2) := by decide +kernel
theorem dX9_removeScrap_77 : decode cX9_removeScrap 77 = .ok (.iconst 4, 1) := by decide +kernel
theorem dX9_removeScrap_78 : decode cX9_removeScrap 78 = .ok (.iload_n 2, 1) := by decide +kernel
theorem dX9_removeScrap_79 : decode cX9_removeScrap 79 = .ok (.imul, 1) := by decide +kernel
theorem dX9_removeScrap_80 : decode cX9_removeScrap 80 = .ok (.iadd, 1) := by decide +kernel
theorem dX9_removeScrap_81 : decode cX9_removeScrap 81 = .ok (.iload_n 3, 1) := by decide +kernel
theorem dX9_removeScrap_82 : decode cX9_removeScrap 82 = .ok (.iadd, 1) := by decide +kernel
theorem dX9_removeScrap_83 : decode cX9_removeScrap 83 = .ok (.aload_n 0, 1) := by decide +kernel
theorem dX9_removeScrap_84 : decode cX9_removeScrap 84 = .ok (.getfield 7, 3) := by decide +kernel
theorem dX9_removeScrap_87 : decode cX9_removeScrap 87 = .ok (.bipush 51, 2) := by decide +kernel
theorem dX9_removeScrap_89 : decode cX9_removeScrap 89 = .ok (.iconst 4, 1) := by decide +kernel
theorem dX9_removeScrap_90 : decode cX9_removeScrap 90 = .ok (.iload_n 2, 1) := by decide +kernel
theorem dX9_removeScrap_91 : decode cX9_removeScrap 91 = .ok (.imul, 1) := by decide +kernel
theorem dX9_removeScrap_92 : decode cX9_removeScrap 92 = .ok (.iadd, 1) := by decide +kernel
theorem dX9_removeScrap_93 : decode cX9_removeScrap 93 = .ok (.iconst 4, 1) := by decide +kernel
theorem dX9_removeScrap_94 : decode cX9_removeScrap 94 = .ok (.iadd, 1) := by decide +kernel
theorem dX9_removeScrap_95 : decode cX9_removeScrap 95 = .ok (.iload_n 3, 1) := by decide +kernel
theorem dX9_removeScrap_96 : decode cX9_removeScrap 96 = .ok (.iadd, 1) := by decide +kernel
theorem dX9_removeScrap_97 : decode cX9_removeScrap 97 = .ok (.iaload, 1) := by decide +kernel
theorem dX9_removeScrap_98 : decode cX9_removeScrap 98 = .ok (.iastore, 1) := by decide +kernel
theorem dX9_removeScrap_99 : decode cX9_removeScrap 99 = .ok (.iinc 3 1, 3) := by decide +kernel
theorem dX9_removeScrap_102 : decode cX9_removeScrap 102 = .ok (.goto (-62), 3) := by decide +kernel
theorem dX9_removeScrap_105 : decode cX9_removeScrap 105 = .ok (.bipush 99, 2) := by decide +kernel
theorem dX9_removeScrap_107 : decode cX9_removeScrap 107 = .ok (.istore_n 3, 1) := by decide +kernel
theorem dX9_removeScrap_108 : decode cX9_removeScrap 108 = .ok (.iload_n 3, 1) := by decide +kernel
theorem dX9_removeScrap_109 : decode cX9_removeScrap 109 = .ok (.bipush 123, 2) := by decide +kernel
theorem dX9_removeScrap_111 : decode cX9_removeScrap 111 = .ok (.if_icmp .gt 27, 3) := by decide +kernel
theorem dX9_removeScrap_114 : decode cX9_removeScrap 114 = .ok (.aload_n 0, 1) := by decide +kernel
theorem dX9_removeScrap_115 : decode cX9_removeScrap 115 = .ok (.getfield 7, 3) := by decide +kernel
theorem dX9_removeScrap_118 : decode cX9_removeScrap 118 = .ok (.iload_n 3, 1) := by decide +kernel
theorem dX9_removeScrap_119 : decode cX9_removeScrap 119 = .ok (.iload_n 2, 1) := by decide +kernel
theorem dX9_removeScrap_120 : decode cX9_removeScrap 120 = .ok (.iadd, 1) := by decide +kernel
theorem dX9_removeScrap_121 : decode cX9_removeScrap 121 = .ok (.aload_n 0, 1) := by decide +kernel
theorem dX9_removeScrap_122 : decode cX9_removeScrap 122 = .ok (.getfield 7, 3) := by decide +kernel
theorem dX9_removeScrap_125 : decode cX9_removeScrap 125 = .ok (.iload_n 3, 1) := by decide +kernel
theorem dX9_removeScrap_126 : decode cX9_removeScrap 126 = .ok (.iload_n 2, 1) := by decide +kernel
theorem dX9_removeScrap_127 : decode cX9_removeScrap 127 = .ok (.iadd, 1) := by decide +kernel
theorem dX9_removeScrap_128 : decode cX9_removeScrap 128 = .ok (.iconst 1, 1) := by decide +kernel
theorem dX9_removeScrap_129 : decode cX9_removeScrap 129 = .ok (.iadd, 1) := by decide +kernel
theorem dX9_removeScrap_130 : decode cX9_removeScrap 130 = .ok (.iaload, 1) := by decide +kernel
theorem dX9_removeScrap_131 : decode cX9_removeScrap 131 = .ok (.iastore, 1) := by decide +kernel
theorem dX9_removeScrap_132 : decode cX9_removeScrap 132 = .ok (.iinc 3 12, 3) := by decide +kernel
theorem dX9_removeScrap_135 : decode cX9_removeScrap 135 = .ok (.goto (-27), 3) := by decide +kernel
theorem dX9_removeScrap_138 : decode cX9_removeScrap 138 = .ok (.iinc 2 1, 3) := by decide +kernel
theorem dX9_removeScrap_141 : decode cX9_removeScrap 141 = .ok (.goto (-113), 3) := by decide +kernel
theorem dX9_removeScrap_144 : decode cX9_removeScrap 144 = .ok (.aload_n 0, 1) := by decide +kernel
theorem dX9_removeScrap_145 : decode cX9_removeScrap 145 = .ok (.getfield 7, 3) := by decide +kernel
theorem dX9_removeScrap_148 : decode cX9_removeScrap 148 = .ok (.iconst 2, 1) := by decide +kernel
theorem dX9_removeScrap_149 : decode cX9_removeScrap 149 = .ok (.iaload, 1) := by decide +kernel
theorem dX9_removeScrap_150 : decode cX9_removeScrap 150 = .ok (.ireturn, 1) := by decide +kernel
theorem dX9_scrap_0 : decode cX9_scrap 0 = .ok (.aload_n 0, 1) := by decide +kernel
theorem dX9_scrap_1 : decode cX9_scrap 1 = .ok (.iload_n 1, 1) := by decide +kernel
theorem dX9_scrap_2 : decode cX9_scrap 2 = .ok (.invokevirtual 86, 3) := by decide +kernel
theorem dX9_scrap_5 : decode cX9_scrap 5 = .ok (.ifCond .eq 12, 3) := by decide +kernel
theorem dX9_scrap_8 : decode cX9_scrap 8 = .ok (.iload_n 2, 1) := by decide +kernel
theorem dX9_scrap_9 : decode cX9_scrap 9 = .ok (.iconst 0, 1) := by decide +kernel
theorem dX9_scrap_10 : decode cX9_scrap 10 = .ok (.iconst 5, 1) := by decide +kernel
theorem dX9_scrap_11 : decode cX9_scrap 11 = .ok (.invokestatic 38, 3) := by decide +kernel
theorem dX9_scrap_14 : decode cX9_scrap 14 = .ok (.ifCond .ne 7, 3) := by decide +kernel
theorem dX9_scrap_17 : decode cX9_scrap 17 = .ok (.sipush (-1001), 3) := by decide +kernel
theorem dX9_scrap_20 : decode cX9_scrap 20 = .ok (.ireturn, 1) := by decide +kernel
theorem dX9_scrap_21 : decode cX9_scrap 21 = .ok (.iload_n 2, 1) := by decide +kernel
theorem dX9_scrap_22 : decode cX9_scrap 22 = .ok (.iconst 2, 1) := by decide +kernel
theorem dX9_scrap_23 : decode cX9_scrap 23 = .ok (.if_icmp .ge 18, 3) := by decide +kernel
theorem dX9_scrap_26 : decode cX9_scrap 26 = .ok (.aload_n 0, 1) := by decide +kernel
theorem dX9_scrap_27 : decode cX9_scrap 27 = .ok (.getfield 7, 3) := by decide +kernel
theorem dX9_scrap_30 : decode cX9_scrap 30 = .ok (.bipush 99, 2) := by decide +kernel
theorem dX9_scrap_32 : decode cX9_scrap 32 = .ok (.bipush 12, 2) := by decide +kernel
theorem dX9_scrap_34 : decode cX9_scrap 34 = .ok (.iload_n 2, 1) := by decide +kernel
theorem dX9_scrap_35 : decode cX9_scrap 35 = .ok (.imul, 1) := by decide +kernel
theorem dX9_scrap_36 : decode cX9_scrap 36 = .ok (.iadd, 1) := by decide +kernel
theorem dX9_scrap_37 : decode cX9_scrap 37 = .ok (.iload_n 1, 1) := by decide +kernel
theorem dX9_scrap_38 : decode cX9_scrap 38 = .ok (.iadd, 1) := by decide +kernel
theorem dX9_scrap_39 : decode cX9_scrap 39 = .ok (.iaload, 1) := by decide +kernel
theorem dX9_scrap_40 : decode cX9_scrap 40 = .ok (.ireturn, 1) := by decide +kernel
theorem dX9_scrap_41 : decode cX9_scrap 41 = .ok (.aload_n 0, 1) := by decide +kernel
theorem dX9_scrap_42 : decode cX9_scrap 42 = .ok (.iload_n 1, 1) := by decide +kernel
theorem dX9_scrap_43 : decode cX9_scrap 43 = .ok (.invokevirtual 76, 3) := by decide +kernel
theorem dX9_scrap_46 : decode cX9_scrap 46 = .ok (.ifCond .ne 7, 3) := by decide +kernel
theorem dX9_scrap_49 : decode cX9_scrap 49 = .ok (.sipush (-1004), 3) := by decide +kernel
theorem dX9_scrap_52 : decode cX9_scrap 52 = .ok (.ireturn, 1) := by decide +kernel
theorem dX9_scrap_53 : decode cX9_scrap 53 = .ok (.iload_n 2, 1) := by decide +kernel
theorem dX9_scrap_54 : decode cX9_scrap 54 = .ok (.iconst 2, 1) := by decide +kernel
theorem dX9_scrap_55 : decode cX9_scrap 55 = .ok (.if_icmp .ne 13, 3) := by decide +kernel
theorem dX9_scrap_58 : decode cX9_scrap 58 = .ok (.aload_n 0, 1) := by decide +kernel
theorem dX9_scrap_59 : decode cX9_scrap 59 = .ok (.getfield 7, 3) := by decide +kernel
theorem dX9_scrap_62 : decode cX9_scrap 62 = .ok (.bipush 123, 2) := by decide +kernel
theorem dX9_scrap_64 : decode cX9_scrap 64 = .ok (.iload_n 1, 1) := by decide +kernel
theorem dX9_scrap_65 : decode cX9_scrap 65 = .ok (.iadd, 1) := by decide +kernel
theorem dX9_scrap_66 : decode cX9_scrap 66 = .ok (.iaload, 1) := by decide +kernel
theorem dX9_scrap_67 : decode cX9_scrap 67 = .ok (.ireturn, 1) := by decide +kernel
theorem dX9_scrap_68 : decode cX9_scrap 68 = .ok (.iload_n 2, 1) := by decide +kernel
theorem dX9_scrap_69 : decode cX9_scrap 69 = .ok (.iconst 3, 1) := by decide +kernel
theorem dX9_scrap_70 : decode cX9_scrap 70 = .ok (.if_icmp .ne 14, 3) := by decide +kernel
theorem dX9_scrap_73 : decode cX9_scrap 73 = .ok (.aload_n 0, 1) := by decide +kernel
theorem dX9_scrap_74 : decode cX9_scrap 74 = .ok (.invokevirtual 89, 3) := by decide +kernel
theorem dX9_scrap_77 : decode cX9_scrap 77 = .ok (.aload_n 0, 1) := by decide +kernel
theorem dX9_scrap_78 : decode cX9_scrap 78 = .ok (.getfield 29, 3) := by decide +kernel
theorem dX9_scrap_81 : decode cX9_scrap 81 = .ok (.iload_n 1, 1) := by decide +kernel
theorem dX9_scrap_82 : decode cX9_scrap 82 = .ok (.iaload, 1) := by decide +kernel
theorem dX9_scrap_83 : decode cX9_scrap 83 = .ok (.ireturn, 1) := by decide +kernel
theorem dX9_scrap_84 : decode cX9_scrap 84 = .ok (.aload_n 0, 1) := by decide +kernel
theorem dX9_scrap_85 : decode cX9_scrap 85 = .ok (.iload_n 1, 1) := by decide +kernel
theorem dX9_scrap_86 : decode cX9_scrap 86 = .ok (.aload_n 0, 1) := by decide +kernel
theorem dX9_scrap_87 : decode cX9_scrap 87 = .ok (.getfield 7, 3) := by decide +kernel
theorem dX9_scrap_90 : decode cX9_scrap 90 = .ok (.bipush 123, 2) := by decide +kernel
theorem dX9_scrap_92 : decode cX9_scrap 92 = .ok (.iload_n 1, 1) := by decide +kernel
theorem dX9_scrap_93 : decode cX9_scrap 93 = .ok (.iadd, 1) := by decide +kernel
theorem dX9_scrap_94 : decode cX9_scrap 94 = .ok (.iaload, 1) := by decide +kernel
theorem dX9_scrap_95 : decode cX9_scrap 95 = .ok (.aload_n 0, 1) := by decide +kernel
theorem dX9_scrap_96 : decode cX9_scrap 96 = .ok (.getfield 7, 3) := by decide +kernel
theorem dX9_scrap_99 : decode cX9_scrap 99 = .ok (.bipush 111, 2) := by decide +kernel
theorem dX9_scrap_101 : decode cX9_scrap 101 = .ok (.iload_n 1, 1) := by decide +kernel
theorem dX9_scrap_102 : decode cX9_scrap 102 = .ok (.iadd, 1) := by decide +kernel
theorem dX9_scrap_103 : decode cX9_scrap 103 = .ok (.iaload, 1) := by decide +kernel
theorem dX9_scrap_104 : decode cX9_scrap 104 = .ok (.iload_n 2, 1) := by decide +kernel
theorem dX9_scrap_105 : decode cX9_scrap 105 = .ok (.iconst 4, 1) := by decide +kernel
theorem dX9_scrap_106 : decode cX9_scrap 106 = .ok (.if_icmp .ne 7, 3) := by decide +kernel
theorem dX9_scrap_109 : decode cX9_scrap 109 = .ok (.iconst 1, 1) := by decide +kernel
theorem dX9_scrap_110 : decode cX9_scrap 110 = .ok (.goto 4, 3) := by decide +kernel
theorem dX9_scrap_113 : decode cX9_scrap 113 = .ok (.iconst 0, 1) := by decide +kernel
theorem dX9_scrap_114 : decode cX9_scrap 114 = .ok (.invokevirtual 92, 3) := by decide +kernel
theorem dX9_scrap_117 : decode cX9_scrap 117 = .ok (.ireturn, 1) := by decide +kernel
theorem dX9_edge_0 : decode cX9_edge 0 = .ok (.aload_n 0, 1) := by decide +kernel
theorem dX9_edge_1 : decode cX9_edge 1 = .ok (.iload_n 1, 1) := by decide +kernel
theorem dX9_edge_2 : decode cX9_edge 2 = .ok (.invokevirtual 86, 3) := by decide +kernel
theorem dX9_edge_5 : decode cX9_edge 5 = .ok (.ifCond .eq 32, 3) := by decide +kernel
theorem dX9_edge_8 : decode cX9_edge 8 = .ok (.iload_n 2, 1) := by decide +kernel
theorem dX9_edge_9 : decode cX9_edge 9 = .ok (.iconst 0, 1) := by decide +kernel
theorem dX9_edge_10 : decode cX9_edge 10 = .ok (.bipush 7, 2) := by decide +kernel
theorem dX9_edge_12 : decode cX9_edge 12 = .ok (.invokestatic 38, 3) := by decide +kernel
theorem dX9_edge_15 : decode cX9_edge 15 = .ok (.ifCond .eq 22, 3) := by decide +kernel
theorem dX9_edge_18 : decode cX9_edge 18 = .ok (.iload_n 3, 1) := by decide +kernel
theorem dX9_edge_19 : decode cX9_edge 19 = .ok (.iconst 0, 1) := by decide +kernel
theorem dX9_edge_20 : decode cX9_edge 20 = .ok (.iconst 3, 1) := by decide +kernel
theorem dX9_edge_21 : decode cX9_edge 21 = .ok (.invokestatic 38, 3) := by decide +kernel
theorem dX9_edge_24 : decode cX9_edge 24 = .ok (.ifCond .eq 13, 3) := by decide +kernel
theorem dX9_edge_27 : decode cX9_edge 27 = .ok (.iload 4, 2) := by decide +kernel
theorem dX9_edge_29 : decode cX9_edge 29 = .ok (.iconst 0, 1) := by decide +kernel
theorem dX9_edge_30 : decode cX9_edge 30 = .ok (.iconst 1, 1) := by decide +kernel
theorem dX9_edge_31 : decode cX9_edge 31 = .ok (.invokestatic 38, 3) := by decide +kernel
theorem dX9_edge_34 : decode cX9_edge 34 = .ok (.ifCond .ne 7, 3) := by decide +kernel
theorem dX9_edge_37 : decode cX9_edge 37 = .ok (.sipush (-1001), 3) := by decide +kernel
theorem dX9_edge_40 : decode cX9_edge 40 = .ok (.ireturn, 1) := by decide +kernel
theorem dX9_edge_41 : decode cX9_edge 41 = .ok (.iload 4, 2) := by decide +kernel
theorem dX9_edge_43 : decode cX9_edge 43 = .ok (.ifCond .ne 13, 3) := by decide +kernel
theorem dX9_edge_46 : decode cX9_edge 46 = .ok (.aload_n 0, 1) := by decide +kernel
theorem dX9_edge_47 : decode cX9_edge 47 = .ok (.iload_n 1, 1) := by decide +kernel
theorem dX9_edge_48 : decode cX9_edge 48 = .ok (.iload_n 2, 1) := by decide +kernel
theorem dX9_edge_49 : decode cX9_edge 49 = .ok (.iload_n 3, 1) := by decide +kernel
theorem dX9_edge_50 : decode cX9_edge 50 = .ok (.invokevirtual 58, 3) := by decide +kernel
theorem dX9_edge_53 : decode cX9_edge 53 = .ok (.goto 10, 3) := by decide +kernel
theorem dX9_edge_56 : decode cX9_edge 56 = .ok (.aload_n 0, 1) := by decide +kernel
theorem dX9_edge_57 : decode cX9_edge 57 = .ok (.iload_n 1, 1) := by decide +kernel
theorem dX9_edge_58 : decode cX9_edge 58 = .ok (.iload_n 2, 1) := by decide +kernel
theorem dX9_edge_59 : decode cX9_edge 59 = .ok (.iload_n 3, 1) := by decide +kernel
theorem dX9_edge_60 : decode cX9_edge 60 = .ok (.invokevirtual 96, 3) := by decide +kernel
theorem dX9_edge_63 : decode cX9_edge 63 = .ok (.ireturn, 1) := by decide +kernel
theorem dX9_undo_0 : decode cX9_undo 0 = .ok (.aload_n 0, 1) := by decide +kernel
theorem dX9_undo_1 : decode cX9_undo 1 = .ok (.getfield 46, 3) := by decide +kernel
theorem dX9_undo_4 : decode cX9_undo 4 = .ok (.ifCond .ne 7, 3) := by decide +kernel
theorem dX9_undo_7 : decode cX9_undo 7 = .ok (.sipush (-1002), 3) := by decide +kernel
theorem dX9_undo_10 : decode cX9_undo 10 = .ok (.ireturn, 1) := by decide +kernel
theorem dX9_undo_11 : decode cX9_undo 11 = .ok (.aload_n 0, 1) := by decide +kernel
theorem dX9_undo_12 : decode cX9_undo 12 = .ok (.dup, 1) := by decide +kernel
theorem dX9_undo_13 : decode cX9_undo 13 = .ok (.getfield 46, 3) := by decide +kernel
theorem dX9_undo_16 : decode cX9_undo 16 = .ok (.iconst 1, 1) := by decide +kernel
theorem dX9_undo_17 : decode cX9_undo 17 = .ok (.isub, 1) := by decide +kernel
theorem dX9_undo_18 : decode cX9_undo 18 = .ok (.putfield 46, 3) := by decide +kernel
theorem dX9_undo_21 : decode cX9_undo 21 = .ok (.iconst 0, 1) := by decide +kernel
theorem dX9_undo_22 : decode cX9_undo 22 = .ok (.istore_n 1, 1) := by decide +kernel
theorem dX9_undo_23 : decode cX9_undo 23 = .ok (.iload_n 1, 1) := by decide +kernel
theorem dX9_undo_24 : decode cX9_undo 24 = .ok (.sipush 135, 3) := by decide +kernel
theorem dX9_undo_27 : decode cX9_undo 27 = .ok (.if_icmp .ge 30, 3) := by decide +kernel
theorem dX9_undo_30 : decode cX9_undo 30 = .ok (.aload_n 0, 1) := by decide +kernel
theorem dX9_undo_31 : decode cX9_undo 31 = .ok (.getfield 7, 3) := by decide +kernel
theorem dX9_undo_34 : decode cX9_undo 34 = .ok (.iload_n 1, 1) := by decide +kernel
theorem dX9_undo_35 : decode cX9_undo 35 = .ok (.aload_n 0, 1) := by decide +kernel
theorem dX9_undo_36 : decode cX9_undo 36 = .ok (.getfield 13, 3) := by decide +kernel
theorem dX9_undo_39 : decode cX9_undo 39 = .ok (.sipush 135, 3) := by decide +kernel
theorem dX9_undo_42 : decode cX9_undo 42 = .ok (.aload_n 0, 1) := by decide +kernel
theorem dX9_undo_43 : decode cX9_undo 43 = .ok (.getfield 46, 3) := by decide +kernel
theorem dX9_undo_46 : decode cX9_undo 46 = .ok (.imul, 1) := by decide +kernel
theorem dX9_undo_47 : decode cX9_undo 47 = .ok (.iload_n 1, 1) := by decide +kernel
theorem dX9_undo_48 : decode cX9_undo 48 = .ok (.iadd, 1) := by decide +kernel
theorem dX9_undo_49 : decode cX9_undo 49 = .ok (.iaload, 1) := by decide +kernel
theorem dX9_undo_50 : decode cX9_undo 50 = .ok (.iastore, 1) := by decide +kernel
theorem dX9_undo_51 : decode cX9_undo 51 = .ok (.iinc 1 1, 3) := by decide +kernel
theorem dX9_undo_54 : decode cX9_undo 54 = .ok (.goto (-31), 3) := by decide +kernel
theorem dX9_undo_57 : decode cX9_undo 57 = .ok (.aload_n 0, 1) := by decide +kernel
theorem dX9_undo_58 : decode cX9_undo 58 = .ok (.getfield 46, 3) := by decide +kernel
theorem dX9_undo_61 : decode cX9_undo 61 = .ok (.ireturn, 1) := by decide +kernel
theorem dX9_gathers_0 : decode cX9_gathers 0 = .ok (.iconst 0, 1) := by decide +kernel
theorem dX9_gathers_1 : decode cX9_gathers 1 = .ok (.istore_n 1, 1) := by decide +kernel
theorem dX9_gathers_2 : decode cX9_gathers 2 = .ok (.iload_n 1, 1) := by decide +kernel
theorem dX9_gathers_3 : decode cX9_gathers 3 = .ok (.bipush 12, 2) := by decide +kernel
theorem dX9_gathers_5 : decode cX9_gathers 5 = .ok (.if_icmp .ge 16, 3) := by decide +kernel
theorem dX9_gathers_8 : decode cX9_gathers 8 = .ok (.aload_n 0, 1) := by decide +kernel
theorem dX9_gathers_9 : decode cX9_gathers 9 = .ok (.getfield 29, 3) := by decide +kernel
theorem dX9_gathers_12 : decode cX9_gathers 12 = .ok (.iload_n 1, 1) := by decide +kernel
theorem dX9_gathers_13 : decode cX9_gathers 13 = .ok (.iconst (-1), 1) := by decide +kernel
theorem dX9_gathers_14 : decode cX9_gathers 14 = .ok (.iastore, 1) := by decide +kernel
theorem dX9_gathers_15 : decode cX9_gathers 15 = .ok (.iinc 1 1, 3) := by decide +kernel
theorem dX9_gathers_18 : decode cX9_gathers 18 = .ok (.goto (-16), 3) := by decide +kernel
theorem dX9_gathers_21 : decode cX9_gathers 21 = .ok (.aload_n 0, 1) := by decide +kernel
theorem dX9_gathers_22 : decode cX9_gathers 22 = .ok (.iconst 0, 1) := by decide +kernel
theorem dX9_gathers_23 : decode cX9_gathers 23 = .ok (.putfield 99, 3) := by decide +kernel
theorem dX9_gathers_26 : decode cX9_gathers 26 = .ok (.iconst 0, 1) := by decide +kernel
theorem dX9_gathers_27 : decode cX9_gathers 27 = .ok (.istore_n 1, 1) := by decide +kernel
theorem dX9_gathers_28 : decode cX9_gathers 28 = .ok (.iload_n 1, 1) := by decide +kernel
theorem dX9_gathers_29 : decode cX9_gathers 29 = .ok (.aload_n 0, 1) := by decide +kernel
theorem dX9_gathers_30 : decode cX9_gathers 30 = .ok (.getfield 7, 3) := by decide +kernel
theorem dX9_gathers_33 : decode cX9_gathers 33 = .ok (.iconst 2, 1) := by decide +kernel
theorem dX9_gathers_34 : decode cX9_gathers 34 = .ok (.iaload, 1) := by decide +kernel
theorem dX9_gathers_35 : decode cX9_gathers 35 = .ok (.if_icmp .ge 51, 3) := by decide +kernel
theorem dX9_gathers_38 : decode cX9_gathers 38 = .ok (.aload_n 0, 1) := by decide +kernel
theorem dX9_gathers_39 : decode cX9_gathers 39 = .ok (.iload_n 1, 1) := by decide +kernel
theorem dX9_gathers_40 : decode cX9_gathers 40 = .ok (.invokevirtual 76, 3) := by decide +kernel
theorem dX9_gathers_43 : decode cX9_gathers 43 = .ok (.ifCond .eq 37, 3) := by decide +kernel
theorem dX9_gathers_46 : decode cX9_gathers 46 = .ok (.aload_n 0, 1) := by decide +kernel
theorem dX9_gathers_47 : decode cX9_gathers 47 = .ok (.getfield 29, 3) := by decide +kernel
theorem dX9_gathers_50 : decode cX9_gathers 50 = .ok (.iload_n 1, 1) := by decide +kernel
theorem dX9_gathers_51 : decode cX9_gathers 51 = .ok (.iaload, 1) := by decide +kernel
theorem dX9_gathers_52 : decode cX9_gathers 52 = .ok (.iconst (-1), 1) := by decide +kernel
theorem dX9_gathers_53 : decode cX9_gathers 53 = .ok (.if_icmp .ne 27, 3) := by decide +kernel
theorem dX9_gathers_56 : decode cX9_gathers 56 = .ok (.aload_n 0, 1) := by decide +kernel
theorem dX9_gathers_57 : decode cX9_gathers 57 = .ok (.getfield 29, 3) := by decide +kernel
theorem dX9_gathers_60 : decode cX9_gathers 60 = .ok (.iload_n 1, 1) := by decide +kernel
theorem dX9_gathers_61 : decode cX9_gathers 61 = .ok (.aload_n 0, 1) := by decide +kernel
theorem dX9_gathers_62 : decode cX9_gathers 62 = .ok (.getfield 99, 3) := by decide +kernel
theorem dX9_gathers_65 : decode cX9_gathers 65 = .ok (.iastore, 1) := by decide +kernel
theorem dX9_gathers_66 : decode cX9_gathers 66 = .ok (.aload_n 0, 1) := by decide +kernel
theorem dX9_gathers_67 : decode cX9_gathers 67 = .ok (.invokevirtual 102, 3) := by decide +kernel
theorem dX9_gathers_70 : decode cX9_gathers 70 = .ok (.aload_n 0, 1) := by decide +kernel
theorem dX9_gathers_71 : decode cX9_gathers 71 = .ok (.dup, 1) := by decide +kernel
theorem dX9_gathers_72 : decode cX9_gathers 72 = .ok (.getfield 99, 3) := by decide +kernel
theorem dX9_gathers_75 : decode cX9_gathers 75 = .ok (.iconst 1, 1) := by decide +kernel
theorem dX9_gathers_76 : decode cX9_gathers 76 = .ok (.iadd, 1) := by decide +kernel
