theorem dX9_gathers_77 : decode cX9_gathers 77 = .ok (.putfield 99, 3) := by decide +kernel
theorem dX9_gathers_80 : decode cX9_gathers 80 = .ok (.iinc 1 1, 3) := by decide +kernel
theorem dX9_gathers_83 : decode cX9_gathers 83 = .ok (.goto (-55), 3) := by decide +kernel
theorem dX9_gathers_86 : decode cX9_gathers 86 = .ok (.return_, 1) := by decide +kernel
theorem dX9_spreads_0 : decode cX9_spreads 0 = .ok (.iconst 1, 1) := by decide +kernel
theorem dX9_spreads_1 : decode cX9_spreads 1 = .ok (.istore_n 1, 1) := by decide +kernel
theorem dX9_spreads_2 : decode cX9_spreads 2 = .ok (.iload_n 1, 1) := by decide +kernel
theorem dX9_spreads_3 : decode cX9_spreads 3 = .ok (.ifCond .eq 143, 3) := by decide +kernel
theorem dX9_spreads_6 : decode cX9_spreads 6 = .ok (.iconst 0, 1) := by decide +kernel
theorem dX9_spreads_7 : decode cX9_spreads 7 = .ok (.istore_n 1, 1) := by decide +kernel
theorem dX9_spreads_8 : decode cX9_spreads 8 = .ok (.iconst 0, 1) := by decide +kernel
theorem dX9_spreads_9 : decode cX9_spreads 9 = .ok (.istore_n 2, 1) := by decide +kernel
theorem dX9_spreads_10 : decode cX9_spreads 10 = .ok (.iload_n 2, 1) := by decide +kernel
theorem dX9_spreads_11 : decode cX9_spreads 11 = .ok (.aload_n 0, 1) := by decide +kernel
theorem dX9_spreads_12 : decode cX9_spreads 12 = .ok (.getfield 7, 3) := by decide +kernel
theorem dX9_spreads_15 : decode cX9_spreads 15 = .ok (.iconst 2, 1) := by decide +kernel
theorem dX9_spreads_16 : decode cX9_spreads 16 = .ok (.iaload, 1) := by decide +kernel
theorem dX9_spreads_17 : decode cX9_spreads 17 = .ok (.if_icmp .ge 126, 3) := by decide +kernel
theorem dX9_spreads_20 : decode cX9_spreads 20 = .ok (.iconst 0, 1) := by decide +kernel
theorem dX9_spreads_21 : decode cX9_spreads 21 = .ok (.istore_n 3, 1) := by decide +kernel
theorem dX9_spreads_22 : decode cX9_spreads 22 = .ok (.iload_n 3, 1) := by decide +kernel
theorem dX9_spreads_23 : decode cX9_spreads 23 = .ok (.iconst 4, 1) := by decide +kernel
theorem dX9_spreads_24 : decode cX9_spreads 24 = .ok (.if_icmp .ge 113, 3) := by decide +kernel
theorem dX9_spreads_27 : decode cX9_spreads 27 = .ok (.aload_n 0, 1) := by decide +kernel
theorem dX9_spreads_28 : decode cX9_spreads 28 = .ok (.getfield 29, 3) := by decide +kernel
theorem dX9_spreads_31 : decode cX9_spreads 31 = .ok (.iload_n 2, 1) := by decide +kernel
theorem dX9_spreads_32 : decode cX9_spreads 32 = .ok (.iaload, 1) := by decide +kernel
theorem dX9_spreads_33 : decode cX9_spreads 33 = .ok (.aload_n 0, 1) := by decide +kernel
theorem dX9_spreads_34 : decode cX9_spreads 34 = .ok (.getfield 99, 3) := by decide +kernel
theorem dX9_spreads_37 : decode cX9_spreads 37 = .ok (.if_icmp .ne 100, 3) := by decide +kernel
theorem dX9_spreads_40 : decode cX9_spreads 40 = .ok (.aload_n 0, 1) := by decide +kernel
theorem dX9_spreads_41 : decode cX9_spreads 41 = .ok (.aload_n 0, 1) := by decide +kernel
theorem dX9_spreads_42 : decode cX9_spreads 42 = .ok (.getfield 7, 3) := by decide +kernel
theorem dX9_spreads_45 : decode cX9_spreads 45 = .ok (.bipush 123, 2) := by decide +kernel
theorem dX9_spreads_47 : decode cX9_spreads 47 = .ok (.iload_n 2, 1) := by decide +kernel
theorem dX9_spreads_48 : decode cX9_spreads 48 = .ok (.iadd, 1) := by decide +kernel
theorem dX9_spreads_49 : decode cX9_spreads 49 = .ok (.iaload, 1) := by decide +kernel
theorem dX9_spreads_50 : decode cX9_spreads 50 = .ok (.iload_n 3, 1) := by decide +kernel
theorem dX9_spreads_51 : decode cX9_spreads 51 = .ok (.invokevirtual 62, 3) := by decide +kernel
theorem dX9_spreads_54 : decode cX9_spreads 54 = .ok (.istore 4, 2) := by decide +kernel
theorem dX9_spreads_56 : decode cX9_spreads 56 = .ok (.iload 4, 2) := by decide +kernel
theorem dX9_spreads_58 : decode cX9_spreads 58 = .ok (.iconst (-1), 1) := by decide +kernel
theorem dX9_spreads_59 : decode cX9_spreads 59 = .ok (.if_icmp .ne 7, 3) := by decide +kernel
theorem dX9_spreads_62 : decode cX9_spreads 62 = .ok (.iconst (-1), 1) := by decide +kernel
theorem dX9_spreads_63 : decode cX9_spreads 63 = .ok (.goto 9, 3) := by decide +kernel
theorem dX9_spreads_66 : decode cX9_spreads 66 = .ok (.aload_n 0, 1) := by decide +kernel
theorem dX9_spreads_67 : decode cX9_spreads 67 = .ok (.iload 4, 2) := by decide +kernel
theorem dX9_spreads_69 : decode cX9_spreads 69 = .ok (.invokevirtual 66, 3) := by decide +kernel
theorem dX9_spreads_72 : decode cX9_spreads 72 = .ok (.istore 5, 2) := by decide +kernel
theorem dX9_spreads_74 : decode cX9_spreads 74 = .ok (.iload 5, 2) := by decide +kernel
theorem dX9_spreads_76 : decode cX9_spreads 76 = .ok (.iconst (-1), 1) := by decide +kernel
theorem dX9_spreads_77 : decode cX9_spreads 77 = .ok (.if_icmp .eq 54, 3) := by decide +kernel
theorem dX9_spreads_80 : decode cX9_spreads 80 = .ok (.aload_n 0, 1) := by decide +kernel
theorem dX9_spreads_81 : decode cX9_spreads 81 = .ok (.getfield 29, 3) := by decide +kernel
theorem dX9_spreads_84 : decode cX9_spreads 84 = .ok (.iload 5, 2) := by decide +kernel
theorem dX9_spreads_86 : decode cX9_spreads 86 = .ok (.iaload, 1) := by decide +kernel
theorem dX9_spreads_87 : decode cX9_spreads 87 = .ok (.iconst (-1), 1) := by decide +kernel
theorem dX9_spreads_88 : decode cX9_spreads 88 = .ok (.if_icmp .ne 43, 3) := by decide +kernel
theorem dX9_spreads_91 : decode cX9_spreads 91 = .ok (.aload_n 0, 1) := by decide +kernel
theorem dX9_spreads_92 : decode cX9_spreads 92 = .ok (.iload_n 2, 1) := by decide +kernel
theorem dX9_spreads_93 : decode cX9_spreads 93 = .ok (.aload_n 0, 1) := by decide +kernel
theorem dX9_spreads_94 : decode cX9_spreads 94 = .ok (.getfield 7, 3) := by decide +kernel
theorem dX9_spreads_97 : decode cX9_spreads 97 = .ok (.bipush 123, 2) := by decide +kernel
theorem dX9_spreads_99 : decode cX9_spreads 99 = .ok (.iload_n 2, 1) := by decide +kernel
theorem dX9_spreads_100 : decode cX9_spreads 100 = .ok (.iadd, 1) := by decide +kernel
theorem dX9_spreads_101 : decode cX9_spreads 101 = .ok (.iaload, 1) := by decide +kernel
theorem dX9_spreads_102 : decode cX9_spreads 102 = .ok (.aload_n 0, 1) := by decide +kernel
theorem dX9_spreads_103 : decode cX9_spreads 103 = .ok (.getfield 7, 3) := by decide +kernel
theorem dX9_spreads_106 : decode cX9_spreads 106 = .ok (.bipush 111, 2) := by decide +kernel
theorem dX9_spreads_108 : decode cX9_spreads 108 = .ok (.iload_n 2, 1) := by decide +kernel
theorem dX9_spreads_109 : decode cX9_spreads 109 = .ok (.iadd, 1) := by decide +kernel
theorem dX9_spreads_110 : decode cX9_spreads 110 = .ok (.iaload, 1) := by decide +kernel
theorem dX9_spreads_111 : decode cX9_spreads 111 = .ok (.iload_n 3, 1) := by decide +kernel
theorem dX9_spreads_112 : decode cX9_spreads 112 = .ok (.invokevirtual 69, 3) := by decide +kernel
theorem dX9_spreads_115 : decode cX9_spreads 115 = .ok (.ifCond .ne 16, 3) := by decide +kernel
theorem dX9_spreads_118 : decode cX9_spreads 118 = .ok (.aload_n 0, 1) := by decide +kernel
theorem dX9_spreads_119 : decode cX9_spreads 119 = .ok (.getfield 29, 3) := by decide +kernel
theorem dX9_spreads_122 : decode cX9_spreads 122 = .ok (.iload 5, 2) := by decide +kernel
theorem dX9_spreads_124 : decode cX9_spreads 124 = .ok (.aload_n 0, 1) := by decide +kernel
theorem dX9_spreads_125 : decode cX9_spreads 125 = .ok (.getfield 99, 3) := by decide +kernel
theorem dX9_spreads_128 : decode cX9_spreads 128 = .ok (.iastore, 1) := by decide +kernel
theorem dX9_spreads_129 : decode cX9_spreads 129 = .ok (.iconst 1, 1) := by decide +kernel
theorem dX9_spreads_130 : decode cX9_spreads 130 = .ok (.istore_n 1, 1) := by decide +kernel
theorem dX9_spreads_131 : decode cX9_spreads 131 = .ok (.iinc 3 1, 3) := by decide +kernel
theorem dX9_spreads_134 : decode cX9_spreads 134 = .ok (.goto (-112), 3) := by decide +kernel
theorem dX9_spreads_137 : decode cX9_spreads 137 = .ok (.iinc 2 1, 3) := by decide +kernel
theorem dX9_spreads_140 : decode cX9_spreads 140 = .ok (.goto (-130), 3) := by decide +kernel
theorem dX9_spreads_143 : decode cX9_spreads 143 = .ok (.goto (-141), 3) := by decide +kernel
theorem dX9_spreads_146 : decode cX9_spreads 146 = .ok (.return_, 1) := by decide +kernel
theorem dX9_count_0 : decode cX9_count 0 = .ok (.iload_n 1, 1) := by decide +kernel
theorem dX9_count_1 : decode cX9_count 1 = .ok (.iconst 0, 1) := by decide +kernel
theorem dX9_count_2 : decode cX9_count 2 = .ok (.bipush 11, 2) := by decide +kernel
theorem dX9_count_4 : decode cX9_count 4 = .ok (.invokestatic 38, 3) := by decide +kernel
theorem dX9_count_7 : decode cX9_count 7 = .ok (.ifCond .ne 7, 3) := by decide +kernel
theorem dX9_count_10 : decode cX9_count 10 = .ok (.sipush (-1001), 3) := by decide +kernel
theorem dX9_count_13 : decode cX9_count 13 = .ok (.ireturn, 1) := by decide +kernel
theorem dX9_count_14 : decode cX9_count 14 = .ok (.iconst 0, 1) := by decide +kernel
theorem dX9_count_15 : decode cX9_count 15 = .ok (.istore_n 2, 1) := by decide +kernel
theorem dX9_count_16 : decode cX9_count 16 = .ok (.iconst 0, 1) := by decide +kernel
theorem dX9_count_17 : decode cX9_count 17 = .ok (.istore_n 3, 1) := by decide +kernel
theorem dX9_count_18 : decode cX9_count 18 = .ok (.iconst 0, 1) := by decide +kernel
theorem dX9_count_19 : decode cX9_count 19 = .ok (.istore 4, 2) := by decide +kernel
theorem dX9_count_21 : decode cX9_count 21 = .ok (.iconst 0, 1) := by decide +kernel
theorem dX9_count_22 : decode cX9_count 22 = .ok (.istore 5, 2) := by decide +kernel
theorem dX9_count_24 : decode cX9_count 24 = .ok (.iconst 0, 1) := by decide +kernel
theorem dX9_count_25 : decode cX9_count 25 = .ok (.istore 6, 2) := by decide +kernel
theorem dX9_count_27 : decode cX9_count 27 = .ok (.iconst 0, 1) := by decide +kernel
theorem dX9_count_28 : decode cX9_count 28 = .ok (.istore 7, 2) := by decide +kernel
theorem dX9_count_30 : decode cX9_count 30 = .ok (.iload 7, 2) := by decide +kernel
theorem dX9_count_32 : decode cX9_count 32 = .ok (.aload_n 0, 1) := by decide +kernel
theorem dX9_count_33 : decode cX9_count 33 = .ok (.getfield 7, 3) := by decide +kernel
theorem dX9_count_36 : decode cX9_count 36 = .ok (.iconst 2, 1) := by decide +kernel
theorem dX9_count_37 : decode cX9_count 37 = .ok (.iaload, 1) := by decide +kernel
theorem dX9_count_38 : decode cX9_count 38 = .ok (.if_icmp .ge 210, 3) := by decide +kernel
theorem dX9_count_41 : decode cX9_count 41 = .ok (.iload_n 2, 1) := by decide +kernel
theorem dX9_count_42 : decode cX9_count 42 = .ok (.aload_n 0, 1) := by decide +kernel
theorem dX9_count_43 : decode cX9_count 43 = .ok (.iload 7, 2) := by decide +kernel
theorem dX9_count_45 : decode cX9_count 45 = .ok (.invokevirtual 76, 3) := by decide +kernel
theorem dX9_count_48 : decode cX9_count 48 = .ok (.ifCond .eq 7, 3) := by decide +kernel
theorem dX9_count_51 : decode cX9_count 51 = .ok (.iconst 1, 1) := by decide +kernel
theorem dX9_count_52 : decode cX9_count 52 = .ok (.goto 4, 3) := by decide +kernel
theorem dX9_count_55 : decode cX9_count 55 = .ok (.iconst 0, 1) := by decide +kernel
theorem dX9_count_56 : decode cX9_count 56 = .ok (.iadd, 1) := by decide +kernel
theorem dX9_count_57 : decode cX9_count 57 = .ok (.istore_n 2, 1) := by decide +kernel
theorem dX9_count_58 : decode cX9_count 58 = .ok (.iconst 0, 1) := by decide +kernel
theorem dX9_count_59 : decode cX9_count 59 = .ok (.istore 8, 2) := by decide +kernel
theorem dX9_count_61 : decode cX9_count 61 = .ok (.iload 8, 2) := by decide +kernel
theorem dX9_count_63 : decode cX9_count 63 = .ok (.iconst 4, 1) := by decide +kernel
theorem dX9_count_64 : decode cX9_count 64 = .ok (.if_icmp .ge 178, 3) := by decide +kernel
theorem dX9_count_67 : decode cX9_count 67 = .ok (.aload_n 0, 1) := by decide +kernel
theorem dX9_count_68 : decode cX9_count 68 = .ok (.iload 7, 2) := by decide +kernel
theorem dX9_count_70 : decode cX9_count 70 = .ok (.invokevirtual 76, 3) := by decide +kernel
theorem dX9_count_73 : decode cX9_count 73 = .ok (.ifCond .eq 169, 3) := by decide +kernel
theorem dX9_count_76 : decode cX9_count 76 = .ok (.aload_n 0, 1) := by decide +kernel
theorem dX9_count_77 : decode cX9_count 77 = .ok (.iload 7, 2) := by decide +kernel
theorem dX9_count_79 : decode cX9_count 79 = .ok (.aload_n 0, 1) := by decide +kernel
theorem dX9_count_80 : decode cX9_count 80 = .ok (.getfield 7, 3) := by decide +kernel
theorem dX9_count_83 : decode cX9_count 83 = .ok (.bipush 123, 2) := by decide +kernel
theorem dX9_count_85 : decode cX9_count 85 = .ok (.iload 7, 2) := by decide +kernel
theorem dX9_count_87 : decode cX9_count 87 = .ok (.iadd, 1) := by decide +kernel
theorem dX9_count_88 : decode cX9_count 88 = .ok (.iaload, 1) := by decide +kernel
theorem dX9_count_89 : decode cX9_count 89 = .ok (.aload_n 0, 1) := by decide +kernel
theorem dX9_count_90 : decode cX9_count 90 = .ok (.getfield 7, 3) := by decide +kernel
theorem dX9_count_93 : decode cX9_count 93 = .ok (.bipush 111, 2) := by decide +kernel
theorem dX9_count_95 : decode cX9_count 95 = .ok (.iload 7, 2) := by decide +kernel
theorem dX9_count_97 : decode cX9_count 97 = .ok (.iadd, 1) := by decide +kernel
theorem dX9_count_98 : decode cX9_count 98 = .ok (.iaload, 1) := by decide +kernel
theorem dX9_count_99 : decode cX9_count 99 = .ok (.iload 8, 2) := by decide +kernel
theorem dX9_count_101 : decode cX9_count 101 = .ok (.invokevirtual 69, 3) := by decide +kernel
theorem dX9_count_104 : decode cX9_count 104 = .ok (.istore 9, 2) := by decide +kernel
theorem dX9_count_106 : decode cX9_count 106 = .ok (.aload_n 0, 1) := by decide +kernel
theorem dX9_count_107 : decode cX9_count 107 = .ok (.aload_n 0, 1) := by decide +kernel
theorem dX9_count_108 : decode cX9_count 108 = .ok (.getfield 7, 3) := by decide +kernel
theorem dX9_count_111 : decode cX9_count 111 = .ok (.bipush 123, 2) := by decide +kernel
theorem dX9_count_113 : decode cX9_count 113 = .ok (.iload 7, 2) := by decide +kernel
theorem dX9_count_115 : decode cX9_count 115 = .ok (.iadd, 1) := by decide +kernel
theorem dX9_count_116 : decode cX9_count 116 = .ok (.iaload, 1) := by decide +kernel
theorem dX9_count_117 : decode cX9_count 117 = .ok (.iload 8, 2) := by decide +kernel
theorem dX9_count_119 : decode cX9_count 119 = .ok (.invokevirtual 62, 3) := by decide +kernel
theorem dX9_count_122 : decode cX9_count 122 = .ok (.iconst (-1), 1) := by decide +kernel
theorem dX9_count_123 : decode cX9_count 123 = .ok (.if_icmp .ne 7, 3) := by decide +kernel
theorem dX9_count_126 : decode cX9_count 126 = .ok (.iconst 1, 1) := by decide +kernel
theorem dX9_count_127 : decode cX9_count 127 = .ok (.goto 4, 3) := by decide +kernel
theorem dX9_count_130 : decode cX9_count 130 = .ok (.iconst 0, 1) := by decide +kernel
theorem dX9_count_131 : decode cX9_count 131 = .ok (.istore 10, 2) := by decide +kernel
theorem dX9_count_133 : decode cX9_count 133 = .ok (.iload 10, 2) := by decide +kernel
theorem dX9_count_135 : decode cX9_count 135 = .ok (.ifCond .ne 25, 3) := by decide +kernel
theorem dX9_count_138 : decode cX9_count 138 = .ok (.iload 9, 2) := by decide +kernel
theorem dX9_count_140 : decode cX9_count 140 = .ok (.iconst (-1), 1) := by decide +kernel
theorem dX9_count_141 : decode cX9_count 141 = .ok (.if_icmp .eq 19, 3) := by decide +kernel
theorem dX9_count_144 : decode cX9_count 144 = .ok (.iload 8, 2) := by decide +kernel
theorem dX9_count_146 : decode cX9_count 146 = .ok (.iconst 1, 1) := by decide +kernel
theorem dX9_count_147 : decode cX9_count 147 = .ok (.if_icmp .eq 9, 3) := by decide +kernel
theorem dX9_count_150 : decode cX9_count 150 = .ok (.iload 8, 2) := by decide +kernel
theorem dX9_count_152 : decode cX9_count 152 = .ok (.iconst 2, 1) := by decide +kernel
theorem dX9_count_153 : decode cX9_count 153 = .ok (.if_icmp .ne 7, 3) := by decide +kernel
theorem dX9_count_156 : decode cX9_count 156 = .ok (.iconst 1, 1) := by decide +kernel
theorem dX9_count_157 : decode cX9_count 157 = .ok (.goto 4, 3) := by decide +kernel
theorem dX9_count_160 : decode cX9_count 160 = .ok (.iconst 0, 1) := by decide +kernel
theorem dX9_count_161 : decode cX9_count 161 = .ok (.istore 11, 2) := by decide +kernel
theorem dX9_count_163 : decode cX9_count 163 = .ok (.iload_n 3, 1) := by decide +kernel
theorem dX9_count_164 : decode cX9_count 164 = .ok (.iload 11, 2) := by decide +kernel
theorem dX9_count_166 : decode cX9_count 166 = .ok (.ifCond .eq 7, 3) := by decide +kernel
theorem dX9_count_169 : decode cX9_count 169 = .ok (.iconst 1, 1) := by decide +kernel
theorem dX9_count_170 : decode cX9_count 170 = .ok (.goto 4, 3) := by decide +kernel
theorem dX9_count_173 : decode cX9_count 173 = .ok (.iconst 0, 1) := by decide +kernel
theorem dX9_count_174 : decode cX9_count 174 = .ok (.iadd, 1) := by decide +kernel
theorem dX9_count_175 : decode cX9_count 175 = .ok (.istore_n 3, 1) := by decide +kernel
theorem dX9_count_176 : decode cX9_count 176 = .ok (.iload 4, 2) := by decide +kernel
theorem dX9_count_178 : decode cX9_count 178 = .ok (.iload 11, 2) := by decide +kernel
theorem dX9_count_180 : decode cX9_count 180 = .ok (.ifCond .eq 12, 3) := by decide +kernel
theorem dX9_count_183 : decode cX9_count 183 = .ok (.iload 9, 2) := by decide +kernel
theorem dX9_count_185 : decode cX9_count 185 = .ok (.ifCond .ne 7, 3) := by decide +kernel
theorem dX9_count_188 : decode cX9_count 188 = .ok (.iconst 1, 1) := by decide +kernel
theorem dX9_count_189 : decode cX9_count 189 = .ok (.goto 4, 3) := by decide +kernel
theorem dX9_count_192 : decode cX9_count 192 = .ok (.iconst 0, 1) := by decide +kernel
theorem dX9_count_193 : decode cX9_count 193 = .ok (.iadd, 1) := by decide +kernel
theorem dX9_count_194 : decode cX9_count 194 = .ok (.istore 4, 2) := by decide +kernel
theorem dX9_count_196 : decode cX9_count 196 = .ok (.iload 5, 2) := by decide +kernel
theorem dX9_count_198 : decode cX9_count 198 = .ok (.iload 10, 2) := by decide +kernel
theorem dX9_count_200 : decode cX9_count 200 = .ok (.ifCond .eq 12, 3) := by decide +kernel
theorem dX9_count_203 : decode cX9_count 203 = .ok (.iload 9, 2) := by decide +kernel
theorem dX9_count_205 : decode cX9_count 205 = .ok (.ifCond .ne 7, 3) := by decide +kernel
theorem dX9_count_208 : decode cX9_count 208 = .ok (.iconst 1, 1) := by decide +kernel
theorem dX9_count_209 : decode cX9_count 209 = .ok (.goto 4, 3) := by decide +kernel
theorem dX9_count_212 : decode cX9_count 212 = .ok (.iconst 0, 1) := by decide +kernel
theorem dX9_count_213 : decode cX9_count 213 = .ok (.iadd, 1) := by decide +kernel
theorem dX9_count_214 : decode cX9_count 214 = .ok (.istore 5, 2) := by decide +kernel
theorem dX9_count_216 : decode cX9_count 216 = .ok (.iload 6, 2) := by decide +kernel
theorem dX9_count_218 : decode cX9_count 218 = .ok (.iload 10, 2) := by decide +kernel
theorem dX9_count_220 : decode cX9_count 220 = .ok (.ifCond .eq 12, 3) := by decide +kernel
theorem dX9_count_223 : decode cX9_count 223 = .ok (.iload 9, 2) := by decide +kernel
theorem dX9_count_225 : decode cX9_count 225 = .ok (.ifCond .eq 7, 3) := by decide +kernel
theorem dX9_count_228 : decode cX9_count 228 = .ok (.iconst 1, 1) := by decide +kernel
theorem dX9_count_229 : decode cX9_count 229 = .ok (.goto 4, 3) := by decide +kernel
theorem dX9_count_232 : decode cX9_count 232 = .ok (.iconst 0, 1) := by decide +kernel
theorem dX9_count_233 : decode cX9_count 233 = .ok (.iadd, 1) := by decide +kernel
theorem dX9_count_234 : decode cX9_count 234 = .ok (.istore 6, 2) := by decide +kernel
theorem dX9_count_236 : decode cX9_count 236 = .ok (.iinc 8 1, 3) := by decide +kernel
theorem dX9_count_239 : decode cX9_count 239 = .ok (.goto (-178), 3) := by decide +kernel
theorem dX9_count_242 : decode cX9_count 242 = .ok (.iinc 7 1, 3) := by decide +kernel
theorem dX9_count_245 : decode cX9_count 245 = .ok (.goto (-215), 3) := by decide +kernel
theorem dX9_count_248 : decode cX9_count 248 = .ok (.iload_n 1, 1) := by decide +kernel
theorem dX9_count_249 : decode cX9_count 249 = .ok (.tableswitch 109 0 10 #[59, 66, 68, 68, 77, 86, 88, 91, 94, 97, 104], 59) := by decide +kernel
theorem dX9_count_308 : decode cX9_count 308 = .ok (.aload_n 0, 1) := by decide +kernel
theorem dX9_count_309 : decode cX9_count 309 = .ok (.getfield 7, 3) := by decide +kernel
theorem dX9_count_312 : decode cX9_count 312 = .ok (.iconst 2, 1) := by decide +kernel
theorem dX9_count_313 : decode cX9_count 313 = .ok (.iaload, 1) := by decide +kernel
theorem dX9_count_314 : decode cX9_count 314 = .ok (.ireturn, 1) := by decide +kernel
theorem dX9_count_315 : decode cX9_count 315 = .ok (.iload_n 2, 1) := by decide +kernel
theorem dX9_count_316 : decode cX9_count 316 = .ok (.ireturn, 1) := by decide +kernel
theorem dX9_count_317 : decode cX9_count 317 = .ok (.aload_n 0, 1) := by decide +kernel
theorem dX9_count_318 : decode cX9_count 318 = .ok (.getfield 7, 3) := by decide +kernel
theorem dX9_count_321 : decode cX9_count 321 = .ok (.iload_n 1, 1) := by decide +kernel
theorem dX9_count_322 : decode cX9_count 322 = .ok (.iconst 2, 1) := by decide +kernel
theorem dX9_count_323 : decode cX9_count 323 = .ok (.isub, 1) := by decide +kernel
theorem dX9_count_324 : decode cX9_count 324 = .ok (.iaload, 1) := by decide +kernel
theorem dX9_count_325 : decode cX9_count 325 = .ok (.ireturn, 1) := by decide +kernel
theorem dX9_count_326 : decode cX9_count 326 = .ok (.aload_n 0, 1) := by decide +kernel
theorem dX9_count_327 : decode cX9_count 327 = .ok (.invokevirtual 89, 3) := by decide +kernel
theorem dX9_count_330 : decode cX9_count 330 = .ok (.aload_n 0, 1) := by decide +kernel
theorem dX9_count_331 : decode cX9_count 331 = .ok (.getfield 99, 3) := by decide +kernel
theorem dX9_count_334 : decode cX9_count 334 = .ok (.ireturn, 1) := by decide +kernel
theorem dX9_count_335 : decode cX9_count 335 = .ok (.iload_n 3, 1) := by decide +kernel
theorem dX9_count_336 : decode cX9_count 336 = .ok (.ireturn, 1) := by decide +kernel
theorem dX9_count_337 : decode cX9_count 337 = .ok (.iload 4, 2) := by decide +kernel
theorem dX9_count_339 : decode cX9_count 339 = .ok (.ireturn, 1) := by decide +kernel
theorem dX9_count_340 : decode cX9_count 340 = .ok (.iload 5, 2) := by decide +kernel
theorem dX9_count_342 : decode cX9_count 342 = .ok (.ireturn, 1) := by decide +kernel
theorem dX9_count_343 : decode cX9_count 343 = .ok (.iload 6, 2) := by decide +kernel
theorem dX9_count_345 : decode cX9_count 345 = .ok (.ireturn, 1) := by decide +kernel
theorem dX9_count_346 : decode cX9_count 346 = .ok (.aload_n 0, 1) := by decide +kernel
theorem dX9_count_347 : decode cX9_count 347 = .ok (.invokevirtual 42, 3) := by decide +kernel
theorem dX9_count_350 : decode cX9_count 350 = .ok (.iload_n 2, 1) := by decide +kernel
theorem dX9_count_351 : decode cX9_count 351 = .ok (.isub, 1) := by decide +kernel
theorem dX9_count_352 : decode cX9_count 352 = .ok (.ireturn, 1) := by decide +kernel
theorem dX9_count_353 : decode cX9_count 353 = .ok (.aload_n 0, 1) := by decide +kernel
theorem dX9_count_354 : decode cX9_count 354 = .ok (.getfield 46, 3) := by decide +kernel
theorem dX9_count_357 : decode cX9_count 357 = .ok (.ireturn, 1) := by decide +kernel
theorem dX9_count_358 : decode cX9_count 358 = .ok (.aload_n 0, 1) := by decide +kernel
theorem dX9_count_359 : decode cX9_count 359 = .ok (.getfield 105, 3) := by decide +kernel
theorem dX9_count_362 : decode cX9_count 362 = .ok (.ireturn, 1) := by decide +kernel
theorem dX9_puts_0 : decode cX9_puts 0 = .ok (.aload_n 0, 1) := by decide +kernel
theorem dX9_puts_1 : decode cX9_puts 1 = .ok (.getfield 7, 3) := by decide +kernel
theorem dX9_puts_4 : decode cX9_puts 4 = .ok (.bipush 123, 2) := by decide +kernel
theorem dX9_puts_6 : decode cX9_puts 6 = .ok (.iload_n 1, 1) := by decide +kernel
theorem dX9_puts_7 : decode cX9_puts 7 = .ok (.iadd, 1) := by decide +kernel
theorem dX9_puts_8 : decode cX9_puts 8 = .ok (.iload_n 2, 1) := by decide +kernel
theorem dX9_puts_9 : decode cX9_puts 9 = .ok (.iastore, 1) := by decide +kernel
theorem dX9_puts_10 : decode cX9_puts 10 = .ok (.aload_n 0, 1) := by decide +kernel
theorem dX9_puts_11 : decode cX9_puts 11 = .ok (.getfield 7, 3) := by decide +kernel
theorem dX9_puts_14 : decode cX9_puts 14 = .ok (.bipush 111, 2) := by decide +kernel
theorem dX9_puts_16 : decode cX9_puts 16 = .ok (.iload_n 1, 1) := by decide +kernel
theorem dX9_puts_17 : decode cX9_puts 17 = .ok (.iadd, 1) := by decide +kernel
theorem dX9_puts_18 : decode cX9_puts 18 = .ok (.iload_n 3, 1) := by decide +kernel
theorem dX9_puts_19 : decode cX9_puts 19 = .ok (.iastore, 1) := by decide +kernel
theorem dX9_puts_20 : decode cX9_puts 20 = .ok (.return_, 1) := by decide +kernel
theorem dX9_canLie_0 : decode cX9_canLie 0 = .ok (.aload_n 0, 1) := by decide +kernel
theorem dX9_canLie_1 : decode cX9_canLie 1 = .ok (.iload_n 1, 1) := by decide +kernel
theorem dX9_canLie_2 : decode cX9_canLie 2 = .ok (.iload_n 2, 1) := by decide +kernel
theorem dX9_canLie_3 : decode cX9_canLie 3 = .ok (.iload_n 3, 1) := by decide +kernel
theorem dX9_canLie_4 : decode cX9_canLie 4 = .ok (.iconst 0, 1) := by decide +kernel
theorem dX9_canLie_5 : decode cX9_canLie 5 = .ok (.invokevirtual 92, 3) := by decide +kernel
theorem dX9_canLie_8 : decode cX9_canLie 8 = .ok (.ifCond .ne 7, 3) := by decide +kernel
theorem dX9_canLie_11 : decode cX9_canLie 11 = .ok (.iconst 1, 1) := by decide +kernel
theorem dX9_canLie_12 : decode cX9_canLie 12 = .ok (.goto 4, 3) := by decide +kernel
theorem dX9_canLie_15 : decode cX9_canLie 15 = .ok (.iconst 0, 1) := by decide +kernel
theorem dX9_canLie_16 : decode cX9_canLie 16 = .ok (.ireturn, 1) := by decide +kernel
theorem dX9_isLaying_0 : decode cX9_isLaying 0 = .ok (.aload_n 0, 1) := by decide +kernel
theorem dX9_isLaying_1 : decode cX9_isLaying 1 = .ok (.iload_n 1, 1) := by decide +kernel
theorem dX9_isLaying_2 : decode cX9_isLaying 2 = .ok (.invokevirtual 86, 3) := by decide +kernel
theorem dX9_isLaying_5 : decode cX9_isLaying 5 = .ok (.ifCond .eq 25, 3) := by decide +kernel
theorem dX9_isLaying_8 : decode cX9_isLaying 8 = .ok (.aload_n 0, 1) := by decide +kernel
theorem dX9_isLaying_9 : decode cX9_isLaying 9 = .ok (.iload_n 2, 1) := by decide +kernel
theorem dX9_isLaying_10 : decode cX9_isLaying 10 = .ok (.invokevirtual 108, 3) := by decide +kernel
theorem dX9_isLaying_13 : decode cX9_isLaying 13 = .ok (.ifCond .eq 17, 3) := by decide +kernel
theorem dX9_isLaying_16 : decode cX9_isLaying 16 = .ok (.iload_n 3, 1) := by decide +kernel
theorem dX9_isLaying_17 : decode cX9_isLaying 17 = .ok (.iconst 0, 1) := by decide +kernel
theorem dX9_isLaying_18 : decode cX9_isLaying 18 = .ok (.bipush 7, 2) := by decide +kernel
theorem dX9_isLaying_20 : decode cX9_isLaying 20 = .ok (.invokestatic 38, 3) := by decide +kernel
theorem dX9_isLaying_23 : decode cX9_isLaying 23 = .ok (.ifCond .eq 7, 3) := by decide +kernel
theorem dX9_isLaying_26 : decode cX9_isLaying 26 = .ok (.iconst 1, 1) := by decide +kernel
theorem dX9_isLaying_27 : decode cX9_isLaying 27 = .ok (.goto 4, 3) := by decide +kernel
theorem dX9_isLaying_30 : decode cX9_isLaying 30 = .ok (.iconst 0, 1) := by decide +kernel
theorem dX9_isLaying_31 : decode cX9_isLaying 31 = .ok (.ireturn, 1) := by decide +kernel
theorem dX9_lay_0 : decode cX9_lay 0 = .ok (.aload_n 0, 1) := by decide +kernel
theorem dX9_lay_1 : decode cX9_lay 1 = .ok (.iload_n 1, 1) := by decide +kernel
theorem dX9_lay_2 : decode cX9_lay 2 = .ok (.iload_n 2, 1) := by decide +kernel
theorem dX9_lay_3 : decode cX9_lay 3 = .ok (.iload_n 3, 1) := by decide +kernel
theorem dX9_lay_4 : decode cX9_lay 4 = .ok (.invokevirtual 111, 3) := by decide +kernel
theorem dX9_lay_7 : decode cX9_lay 7 = .ok (.ifCond .ne 7, 3) := by decide +kernel
theorem dX9_lay_10 : decode cX9_lay 10 = .ok (.sipush (-1001), 3) := by decide +kernel
theorem dX9_lay_13 : decode cX9_lay 13 = .ok (.ireturn, 1) := by decide +kernel
theorem dX9_lay_14 : decode cX9_lay 14 = .ok (.aload_n 0, 1) := by decide +kernel
theorem dX9_lay_15 : decode cX9_lay 15 = .ok (.iload_n 1, 1) := by decide +kernel
theorem dX9_lay_16 : decode cX9_lay 16 = .ok (.invokevirtual 76, 3) := by decide +kernel
theorem dX9_lay_19 : decode cX9_lay 19 = .ok (.ifCond .ne 22, 3) := by decide +kernel
theorem dX9_lay_22 : decode cX9_lay 22 = .ok (.aload_n 0, 1) := by decide +kernel
theorem dX9_lay_23 : decode cX9_lay 23 = .ok (.iload_n 2, 1) := by decide +kernel
theorem dX9_lay_24 : decode cX9_lay 24 = .ok (.invokevirtual 66, 3) := by decide +kernel
theorem dX9_lay_27 : decode cX9_lay 27 = .ok (.iconst (-1), 1) := by decide +kernel
theorem dX9_lay_28 : decode cX9_lay 28 = .ok (.if_icmp .ne 13, 3) := by decide +kernel
theorem dX9_lay_31 : decode cX9_lay 31 = .ok (.aload_n 0, 1) := by decide +kernel
theorem dX9_lay_32 : decode cX9_lay 32 = .ok (.iload_n 1, 1) := by decide +kernel
theorem dX9_lay_33 : decode cX9_lay 33 = .ok (.iload_n 2, 1) := by decide +kernel
theorem dX9_lay_34 : decode cX9_lay 34 = .ok (.iload_n 3, 1) := by decide +kernel
theorem dX9_lay_35 : decode cX9_lay 35 = .ok (.invokevirtual 114, 3) := by decide +kernel
theorem dX9_lay_38 : decode cX9_lay 38 = .ok (.ifCond .ne 7, 3) := by decide +kernel
theorem dX9_lay_41 : decode cX9_lay 41 = .ok (.sipush (-1002), 3) := by decide +kernel
theorem dX9_lay_44 : decode cX9_lay 44 = .ok (.ireturn, 1) := by decide +kernel
theorem dX9_lay_45 : decode cX9_lay 45 = .ok (.aload_n 0, 1) := by decide +kernel
theorem dX9_lay_46 : decode cX9_lay 46 = .ok (.invokevirtual 73, 3) := by decide +kernel
theorem dX9_lay_49 : decode cX9_lay 49 = .ok (.aload_n 0, 1) := by decide +kernel
theorem dX9_lay_50 : decode cX9_lay 50 = .ok (.iload_n 1, 1) := by decide +kernel
theorem dX9_lay_51 : decode cX9_lay 51 = .ok (.iload_n 2, 1) := by decide +kernel
theorem dX9_lay_52 : decode cX9_lay 52 = .ok (.iload_n 3, 1) := by decide +kernel
theorem dX9_lay_53 : decode cX9_lay 53 = .ok (.invokevirtual 117, 3) := by decide +kernel
theorem dX9_lay_56 : decode cX9_lay 56 = .ok (.aload_n 0, 1) := by decide +kernel
theorem dX9_lay_57 : decode cX9_lay 57 = .ok (.iload_n 1, 1) := by decide +kernel
theorem dX9_lay_58 : decode cX9_lay 58 = .ok (.iload_n 2, 1) := by decide +kernel
theorem dX9_lay_59 : decode cX9_lay 59 = .ok (.invokevirtual 121, 3) := by decide +kernel
theorem dX9_lay_62 : decode cX9_lay 62 = .ok (.ireturn, 1) := by decide +kernel
theorem dX9_force_0 : decode cX9_force 0 = .ok (.aload_n 0, 1) := by decide +kernel
theorem dX9_force_1 : decode cX9_force 1 = .ok (.iload_n 1, 1) := by decide +kernel
theorem dX9_force_2 : decode cX9_force 2 = .ok (.iload_n 2, 1) := by decide +kernel
theorem dX9_force_3 : decode cX9_force 3 = .ok (.iload_n 3, 1) := by decide +kernel
theorem dX9_force_4 : decode cX9_force 4 = .ok (.invokevirtual 111, 3) := by decide +kernel
theorem dX9_force_7 : decode cX9_force 7 = .ok (.ifCond .ne 7, 3) := by decide +kernel
theorem dX9_force_10 : decode cX9_force 10 = .ok (.sipush (-1001), 3) := by decide +kernel
theorem dX9_force_13 : decode cX9_force 13 = .ok (.ireturn, 1) := by decide +kernel
theorem dX9_force_14 : decode cX9_force 14 = .ok (.aload_n 0, 1) := by decide +kernel
theorem dX9_force_15 : decode cX9_force 15 = .ok (.iload_n 1, 1) := by decide +kernel
theorem dX9_force_16 : decode cX9_force 16 = .ok (.invokevirtual 76, 3) := by decide +kernel
theorem dX9_force_19 : decode cX9_force 19 = .ok (.ifCond .ne 12, 3) := by decide +kernel
theorem dX9_force_22 : decode cX9_force 22 = .ok (.aload_n 0, 1) := by decide +kernel
theorem dX9_force_23 : decode cX9_force 23 = .ok (.iload_n 2, 1) := by decide +kernel
theorem dX9_force_24 : decode cX9_force 24 = .ok (.invokevirtual 66, 3) := by decide +kernel
theorem dX9_force_27 : decode cX9_force 27 = .ok (.iconst (-1), 1) := by decide +kernel
theorem dX9_force_28 : decode cX9_force 28 = .ok (.if_icmp .eq 7, 3) := by decide +kernel
theorem dX9_force_31 : decode cX9_force 31 = .ok (.sipush (-1002), 3) := by decide +kernel
theorem dX9_force_34 : decode cX9_force 34 = .ok (.ireturn, 1) := by decide +kernel
theorem dX9_force_35 : decode cX9_force 35 = .ok (.aload_n 0, 1) := by decide +kernel
theorem dX9_force_36 : decode cX9_force 36 = .ok (.invokevirtual 73, 3) := by decide +kernel
theorem dX9_force_39 : decode cX9_force 39 = .ok (.aload_n 0, 1) := by decide +kernel
theorem dX9_force_40 : decode cX9_force 40 = .ok (.iload_n 1, 1) := by decide +kernel
theorem dX9_force_41 : decode cX9_force 41 = .ok (.iload_n 2, 1) := by decide +kernel
theorem dX9_force_42 : decode cX9_force 42 = .ok (.iload_n 3, 1) := by decide +kernel
theorem dX9_force_43 : decode cX9_force 43 = .ok (.invokevirtual 117, 3) := by decide +kernel
theorem dX9_force_46 : decode cX9_force 46 = .ok (.aload_n 0, 1) := by decide +kernel
theorem dX9_force_47 : decode cX9_force 47 = .ok (.iload_n 1, 1) := by decide +kernel
theorem dX9_force_48 : decode cX9_force 48 = .ok (.iload_n 2, 1) := by decide +kernel
theorem dX9_force_49 : decode cX9_force 49 = .ok (.iload_n 3, 1) := by decide +kernel
theorem dX9_force_50 : decode cX9_force 50 = .ok (.iconst 0, 1) := by decide +kernel
theorem dX9_force_51 : decode cX9_force 51 = .ok (.invokevirtual 92, 3) := by decide +kernel
theorem dX9_force_54 : decode cX9_force 54 = .ok (.ireturn, 1) := by decide +kernel
theorem dX9_lift_0 : decode cX9_lift 0 = .ok (.aload_n 0, 1) := by decide +kernel
theorem dX9_lift_1 : decode cX9_lift 1 = .ok (.iload_n 1, 1) := by decide +kernel
theorem dX9_lift_2 : decode cX9_lift 2 = .ok (.invokevirtual 86, 3) := by decide +kernel
theorem dX9_lift_5 : decode cX9_lift 5 = .ok (.ifCond .ne 7, 3) := by decide +kernel
theorem dX9_lift_8 : decode cX9_lift 8 = .ok (.sipush (-1001), 3) := by decide +kernel
theorem dX9_lift_11 : decode cX9_lift 11 = .ok (.ireturn, 1) := by decide +kernel
theorem dX9_lift_12 : decode cX9_lift 12 = .ok (.aload_n 0, 1) := by decide +kernel
theorem dX9_lift_13 : decode cX9_lift 13 = .ok (.iload_n 1, 1) := by decide +kernel
theorem dX9_lift_14 : decode cX9_lift 14 = .ok (.invokevirtual 76, 3) := by decide +kernel
theorem dX9_lift_17 : decode cX9_lift 17 = .ok (.ifCond .ne 7, 3) := by decide +kernel
theorem dX9_lift_20 : decode cX9_lift 20 = .ok (.sipush (-1002), 3) := by decide +kernel
theorem dX9_lift_23 : decode cX9_lift 23 = .ok (.ireturn, 1) := by decide +kernel
theorem dX9_lift_24 : decode cX9_lift 24 = .ok (.aload_n 0, 1) := by decide +kernel
theorem dX9_lift_25 : decode cX9_lift 25 = .ok (.invokevirtual 73, 3) := by decide +kernel
theorem dX9_lift_28 : decode cX9_lift 28 = .ok (.aload_n 0, 1) := by decide +kernel
theorem dX9_lift_29 : decode cX9_lift 29 = .ok (.getfield 7, 3) := by decide +kernel
theorem dX9_lift_32 : decode cX9_lift 32 = .ok (.bipush 123, 2) := by decide +kernel
theorem dX9_lift_34 : decode cX9_lift 34 = .ok (.iload_n 1, 1) := by decide +kernel
theorem dX9_lift_35 : decode cX9_lift 35 = .ok (.iadd, 1) := by decide +kernel
theorem dX9_lift_36 : decode cX9_lift 36 = .ok (.iaload, 1) := by decide +kernel
theorem dX9_lift_37 : decode cX9_lift 37 = .ok (.istore_n 2, 1) := by decide +kernel
theorem dX9_lift_38 : decode cX9_lift 38 = .ok (.aload_n 0, 1) := by decide +kernel
theorem dX9_lift_39 : decode cX9_lift 39 = .ok (.iload_n 1, 1) := by decide +kernel
theorem dX9_lift_40 : decode cX9_lift 40 = .ok (.iconst (-1), 1) := by decide +kernel
theorem dX9_lift_41 : decode cX9_lift 41 = .ok (.iconst 0, 1) := by decide +kernel
theorem dX9_lift_42 : decode cX9_lift 42 = .ok (.invokevirtual 117, 3) := by decide +kernel
theorem dX9_lift_45 : decode cX9_lift 45 = .ok (.iload_n 2, 1) := by decide +kernel
theorem dX9_lift_46 : decode cX9_lift 46 = .ok (.ireturn, 1) := by decide +kernel
theorem dX9_turn_0 : decode cX9_turn 0 = .ok (.aload_n 0, 1) := by decide +kernel
theorem dX9_turn_1 : decode cX9_turn 1 = .ok (.iload_n 1, 1) := by decide +kernel
theorem dX9_turn_2 : decode cX9_turn 2 = .ok (.invokevirtual 86, 3) := by decide +kernel
theorem dX9_turn_5 : decode cX9_turn 5 = .ok (.ifCond .eq 13, 3) := by decide +kernel
theorem dX9_turn_8 : decode cX9_turn 8 = .ok (.iload_n 2, 1) := by decide +kernel
theorem dX9_turn_9 : decode cX9_turn 9 = .ok (.iconst 0, 1) := by decide +kernel
theorem dX9_turn_10 : decode cX9_turn 10 = .ok (.bipush 7, 2) := by decide +kernel
theorem dX9_turn_12 : decode cX9_turn 12 = .ok (.invokestatic 38, 3) := by decide +kernel
theorem dX9_turn_15 : decode cX9_turn 15 = .ok (.ifCond .ne 7, 3) := by decide +kernel
theorem dX9_turn_18 : decode cX9_turn 18 = .ok (.sipush (-1001), 3) := by decide +kernel
theorem dX9_turn_21 : decode cX9_turn 21 = .ok (.ireturn, 1) := by decide +kernel
theorem dX9_turn_22 : decode cX9_turn 22 = .ok (.aload_n 0, 1) := by decide +kernel
theorem dX9_turn_23 : decode cX9_turn 23 = .ok (.iload_n 1, 1) := by decide +kernel
theorem dX9_turn_24 : decode cX9_turn 24 = .ok (.invokevirtual 76, 3) := by decide +kernel
theorem dX9_turn_27 : decode cX9_turn 27 = .ok (.ifCond .ne 7, 3) := by decide +kernel
theorem dX9_turn_30 : decode cX9_turn 30 = .ok (.sipush (-1002), 3) := by decide +kernel
theorem dX9_turn_33 : decode cX9_turn 33 = .ok (.ireturn, 1) := by decide +kernel
theorem dX9_turn_34 : decode cX9_turn 34 = .ok (.aload_n 0, 1) := by decide +kernel
theorem dX9_turn_35 : decode cX9_turn 35 = .ok (.invokevirtual 73, 3) := by decide +kernel
theorem dX9_turn_38 : decode cX9_turn 38 = .ok (.aload_n 0, 1) := by decide +kernel
theorem dX9_turn_39 : decode cX9_turn 39 = .ok (.getfield 7, 3) := by decide +kernel
theorem dX9_turn_42 : decode cX9_turn 42 = .ok (.bipush 111, 2) := by decide +kernel
theorem dX9_turn_44 : decode cX9_turn 44 = .ok (.iload_n 1, 1) := by decide +kernel
theorem dX9_turn_45 : decode cX9_turn 45 = .ok (.iadd, 1) := by decide +kernel
theorem dX9_turn_46 : decode cX9_turn 46 = .ok (.iload_n 2, 1) := by decide +kernel
theorem dX9_turn_47 : decode cX9_turn 47 = .ok (.iastore, 1) := by decide +kernel
theorem dX9_turn_48 : decode cX9_turn 48 = .ok (.aload_n 0, 1) := by decide +kernel
theorem dX9_turn_49 : decode cX9_turn 49 = .ok (.iload_n 1, 1) := by decide +kernel
theorem dX9_turn_50 : decode cX9_turn 50 = .ok (.aload_n 0, 1) := by decide +kernel
theorem dX9_turn_51 : decode cX9_turn 51 = .ok (.getfield 7, 3) := by decide +kernel
theorem dX9_turn_54 : decode cX9_turn 54 = .ok (.bipush 123, 2) := by decide +kernel
theorem dX9_turn_56 : decode cX9_turn 56 = .ok (.iload_n 1, 1) := by decide +kernel
theorem dX9_turn_57 : decode cX9_turn 57 = .ok (.iadd, 1) := by decide +kernel
theorem dX9_turn_58 : decode cX9_turn 58 = .ok (.iaload, 1) := by decide +kernel
theorem dX9_turn_59 : decode cX9_turn 59 = .ok (.iload_n 2, 1) := by decide +kernel
theorem dX9_turn_60 : decode cX9_turn 60 = .ok (.iconst 0, 1) := by decide +kernel
theorem dX9_turn_61 : decode cX9_turn 61 = .ok (.invokevirtual 92, 3) := by decide +kernel
theorem dX9_turn_64 : decode cX9_turn 64 = .ok (.ireturn, 1) := by decide +kernel
theorem dX9_at_0 : decode cX9_at 0 = .ok (.aload_n 0, 1) := by decide +kernel
theorem dX9_at_1 : decode cX9_at 1 = .ok (.iload_n 1, 1) := by decide +kernel
theorem dX9_at_2 : decode cX9_at 2 = .ok (.invokevirtual 108, 3) := by decide +kernel
theorem dX9_at_5 : decode cX9_at 5 = .ok (.ifCond .ne 7, 3) := by decide +kernel
theorem dX9_at_8 : decode cX9_at 8 = .ok (.sipush (-1001), 3) := by decide +kernel
theorem dX9_at_11 : decode cX9_at 11 = .ok (.ireturn, 1) := by decide +kernel
theorem dX9_at_12 : decode cX9_at 12 = .ok (.aload_n 0, 1) := by decide +kernel
theorem dX9_at_13 : decode cX9_at 13 = .ok (.iload_n 1, 1) := by decide +kernel
theorem dX9_at_14 : decode cX9_at 14 = .ok (.invokevirtual 66, 3) := by decide +kernel
theorem dX9_at_17 : decode cX9_at 17 = .ok (.istore_n 2, 1) := by decide +kernel
theorem dX9_at_18 : decode cX9_at 18 = .ok (.iload_n 2, 1) := by decide +kernel
theorem dX9_at_19 : decode cX9_at 19 = .ok (.iconst (-1), 1) := by decide +kernel
theorem dX9_at_20 : decode cX9_at 20 = .ok (.if_icmp .ne 9, 3) := by decide +kernel
theorem dX9_at_23 : decode cX9_at 23 = .ok (.sipush (-1004), 3) := by decide +kernel
theorem dX9_at_26 : decode cX9_at 26 = .ok (.goto 4, 3) := by decide +kernel
theorem dX9_at_29 : decode cX9_at 29 = .ok (.iload_n 2, 1) := by decide +kernel
theorem dX9_at_30 : decode cX9_at 30 = .ok (.ireturn, 1) := by decide +kernel
theorem dX9_reason_0 : decode cX9_reason 0 = .ok (.aload_n 0, 1) := by decide +kernel
theorem dX9_reason_1 : decode cX9_reason 1 = .ok (.iload_n 1, 1) := by decide +kernel
theorem dX9_reason_2 : decode cX9_reason 2 = .ok (.invokevirtual 108, 3) := by decide +kernel
theorem dX9_reason_5 : decode cX9_reason 5 = .ok (.ifCond .eq 12, 3) := by decide +kernel
theorem dX9_reason_8 : decode cX9_reason 8 = .ok (.iload_n 2, 1) := by decide +kernel
theorem dX9_reason_9 : decode cX9_reason 9 = .ok (.iconst 0, 1) := by decide +kernel
theorem dX9_reason_10 : decode cX9_reason 10 = .ok (.iconst 3, 1) := by decide +kernel
theorem dX9_reason_11 : decode cX9_reason 11 = .ok (.invokestatic 38, 3) := by decide +kernel
theorem dX9_reason_14 : decode cX9_reason 14 = .ok (.ifCond .ne 7, 3) := by decide +kernel
theorem dX9_reason_17 : decode cX9_reason 17 = .ok (.sipush (-1001), 3) := by decide +kernel
theorem dX9_reason_20 : decode cX9_reason 20 = .ok (.ireturn, 1) := by decide +kernel
theorem dX9_reason_21 : decode cX9_reason 21 = .ok (.aload_n 0, 1) := by decide +kernel
theorem dX9_reason_22 : decode cX9_reason 22 = .ok (.iload_n 1, 1) := by decide +kernel
theorem dX9_reason_23 : decode cX9_reason 23 = .ok (.invokevirtual 66, 3) := by decide +kernel
theorem dX9_reason_26 : decode cX9_reason 26 = .ok (.istore_n 3, 1) := by decide +kernel
theorem dX9_reason_27 : decode cX9_reason 27 = .ok (.iload_n 3, 1) := by decide +kernel
theorem dX9_reason_28 : decode cX9_reason 28 = .ok (.iconst (-1), 1) := by decide +kernel
theorem dX9_reason_29 : decode cX9_reason 29 = .ok (.if_icmp .ne 7, 3) := by decide +kernel
theorem dX9_reason_32 : decode cX9_reason 32 = .ok (.iconst (-1), 1) := by decide +kernel
theorem dX9_reason_33 : decode cX9_reason 33 = .ok (.goto 19, 3) := by decide +kernel
theorem dX9_reason_36 : decode cX9_reason 36 = .ok (.aload_n 0, 1) := by decide +kernel
theorem dX9_reason_37 : decode cX9_reason 37 = .ok (.iload_n 3, 1) := by decide +kernel
theorem dX9_reason_38 : decode cX9_reason 38 = .ok (.iload_n 1, 1) := by decide +kernel
theorem dX9_reason_39 : decode cX9_reason 39 = .ok (.aload_n 0, 1) := by decide +kernel
theorem dX9_reason_40 : decode cX9_reason 40 = .ok (.getfield 7, 3) := by decide +kernel
theorem dX9_reason_43 : decode cX9_reason 43 = .ok (.bipush 111, 2) := by decide +kernel
theorem dX9_reason_45 : decode cX9_reason 45 = .ok (.iload_n 3, 1) := by decide +kernel
theorem dX9_reason_46 : decode cX9_reason 46 = .ok (.iadd, 1) := by decide +kernel
theorem dX9_reason_47 : decode cX9_reason 47 = .ok (.iaload, 1) := by decide +kernel
theorem dX9_reason_48 : decode cX9_reason 48 = .ok (.iload_n 2, 1) := by decide +kernel
theorem dX9_reason_49 : decode cX9_reason 49 = .ok (.invokevirtual 69, 3) := by decide +kernel
theorem dX9_reason_52 : decode cX9_reason 52 = .ok (.istore 4, 2) := by decide +kernel
theorem dX9_reason_54 : decode cX9_reason 54 = .ok (.iload 4, 2) := by decide +kernel
theorem dX9_reason_56 : decode cX9_reason 56 = .ok (.iconst (-1), 1) := by decide +kernel
theorem dX9_reason_57 : decode cX9_reason 57 = .ok (.if_icmp .ne 9, 3) := by decide +kernel
theorem dX9_reason_60 : decode cX9_reason 60 = .ok (.sipush (-1004), 3) := by decide +kernel
theorem dX9_reason_63 : decode cX9_reason 63 = .ok (.goto 5, 3) := by decide +kernel
theorem dX9_reason_66 : decode cX9_reason 66 = .ok (.iload 4, 2) := by decide +kernel
theorem dX9_reason_68 : decode cX9_reason 68 = .ok (.ireturn, 1) := by decide +kernel
theorem dX9_ways_0 : decode cX9_ways 0 = .ok (.aload_n 0, 1) := by decide +kernel
theorem dX9_ways_1 : decode cX9_ways 1 = .ok (.iload_n 1, 1) := by decide +kernel
theorem dX9_ways_2 : decode cX9_ways 2 = .ok (.invokevirtual 86, 3) := by decide +kernel
theorem dX9_ways_5 : decode cX9_ways 5 = .ok (.ifCond .eq 11, 3) := by decide +kernel
theorem dX9_ways_8 : decode cX9_ways 8 = .ok (.aload_n 0, 1) := by decide +kernel
theorem dX9_ways_9 : decode cX9_ways 9 = .ok (.iload_n 2, 1) := by decide +kernel
theorem dX9_ways_10 : decode cX9_ways 10 = .ok (.invokevirtual 108, 3) := by decide +kernel
theorem dX9_ways_13 : decode cX9_ways 13 = .ok (.ifCond .ne 7, 3) := by decide +kernel
theorem dX9_ways_16 : decode cX9_ways 16 = .ok (.sipush (-1001), 3) := by decide +kernel
theorem dX9_ways_19 : decode cX9_ways 19 = .ok (.ireturn, 1) := by decide +kernel
theorem dX9_ways_20 : decode cX9_ways 20 = .ok (.aload_n 0, 1) := by decide +kernel
theorem dX9_ways_21 : decode cX9_ways 21 = .ok (.iload_n 2, 1) := by decide +kernel
theorem dX9_ways_22 : decode cX9_ways 22 = .ok (.invokevirtual 66, 3) := by decide +kernel
theorem dX9_ways_25 : decode cX9_ways 25 = .ok (.istore_n 3, 1) := by decide +kernel
theorem dX9_ways_26 : decode cX9_ways 26 = .ok (.iload_n 3, 1) := by decide +kernel
theorem dX9_ways_27 : decode cX9_ways 27 = .ok (.iconst (-1), 1) := by decide +kernel
theorem dX9_ways_28 : decode cX9_ways 28 = .ok (.if_icmp .eq 12, 3) := by decide +kernel
theorem dX9_ways_31 : decode cX9_ways 31 = .ok (.iload_n 3, 1) := by decide +kernel
theorem dX9_ways_32 : decode cX9_ways 32 = .ok (.iload_n 1, 1) := by decide +kernel
theorem dX9_ways_33 : decode cX9_ways 33 = .ok (.if_icmp .eq 7, 3) := by decide +kernel
theorem dX9_ways_36 : decode cX9_ways 36 = .ok (.sipush (-1002), 3) := by decide +kernel
theorem dX9_ways_39 : decode cX9_ways 39 = .ok (.ireturn, 1) := by decide +kernel
theorem dX9_ways_40 : decode cX9_ways 40 = .ok (.iconst 0, 1) := by decide +kernel
theorem dX9_ways_41 : decode cX9_ways 41 = .ok (.istore 4, 2) := by decide +kernel
theorem dX9_ways_43 : decode cX9_ways 43 = .ok (.iconst 0, 1) := by decide +kernel
theorem dX9_ways_44 : decode cX9_ways 44 = .ok (.istore 5, 2) := by decide +kernel
theorem dX9_ways_46 : decode cX9_ways 46 = .ok (.iload 5, 2) := by decide +kernel
theorem dX9_ways_48 : decode cX9_ways 48 = .ok (.bipush 8, 2) := by decide +kernel
theorem dX9_ways_50 : decode cX9_ways 50 = .ok (.if_icmp .ge 30, 3) := by decide +kernel
theorem dX9_ways_53 : decode cX9_ways 53 = .ok (.iload 4, 2) := by decide +kernel
theorem dX9_ways_55 : decode cX9_ways 55 = .ok (.aload_n 0, 1) := by decide +kernel
theorem dX9_ways_56 : decode cX9_ways 56 = .ok (.iload_n 1, 1) := by decide +kernel
theorem dX9_ways_57 : decode cX9_ways 57 = .ok (.iload_n 2, 1) := by decide +kernel
theorem dX9_ways_58 : decode cX9_ways 58 = .ok (.iload 5, 2) := by decide +kernel
theorem dX9_ways_60 : decode cX9_ways 60 = .ok (.invokevirtual 114, 3) := by decide +kernel
theorem dX9_ways_63 : decode cX9_ways 63 = .ok (.ifCond .eq 7, 3) := by decide +kernel
theorem dX9_ways_66 : decode cX9_ways 66 = .ok (.iconst 1, 1) := by decide +kernel
theorem dX9_ways_67 : decode cX9_ways 67 = .ok (.goto 4, 3) := by decide +kernel
theorem dX9_ways_70 : decode cX9_ways 70 = .ok (.iconst 0, 1) := by decide +kernel
theorem dX9_ways_71 : decode cX9_ways 71 = .ok (.iadd, 1) := by decide +kernel
theorem dX9_ways_72 : decode cX9_ways 72 = .ok (.istore 4, 2) := by decide +kernel
theorem dX9_ways_74 : decode cX9_ways 74 = .ok (.iinc 5 1, 3) := by decide +kernel
theorem dX9_ways_77 : decode cX9_ways 77 = .ok (.goto (-31), 3) := by decide +kernel
theorem dX9_ways_80 : decode cX9_ways 80 = .ok (.iload 4, 2) := by decide +kernel
theorem dX9_ways_82 : decode cX9_ways 82 = .ok (.ireturn, 1) := by decide +kernel
theorem dX9_best_0 : decode cX9_best 0 = .ok (.iconst (-1), 1) := by decide +kernel
theorem dX9_best_1 : decode cX9_best 1 = .ok (.istore_n 2, 1) := by decide +kernel
theorem dX9_best_2 : decode cX9_best 2 = .ok (.iconst (-1), 1) := by decide +kernel
theorem dX9_best_3 : decode cX9_best 3 = .ok (.istore_n 3, 1) := by decide +kernel
theorem dX9_best_4 : decode cX9_best 4 = .ok (.iconst 0, 1) := by decide +kernel
theorem dX9_best_5 : decode cX9_best 5 = .ok (.istore 4, 2) := by decide +kernel
theorem dX9_best_7 : decode cX9_best 7 = .ok (.iload 4, 2) := by decide +kernel
theorem dX9_best_9 : decode cX9_best 9 = .ok (.aload_n 0, 1) := by decide +kernel
theorem dX9_best_10 : decode cX9_best 10 = .ok (.invokevirtual 42, 3) := by decide +kernel
theorem dX9_best_13 : decode cX9_best 13 = .ok (.if_icmp .ge 75, 3) := by decide +kernel
theorem dX9_best_16 : decode cX9_best 16 = .ok (.iconst 0, 1) := by decide +kernel
theorem dX9_best_17 : decode cX9_best 17 = .ok (.istore 5, 2) := by decide +kernel
theorem dX9_best_19 : decode cX9_best 19 = .ok (.iload 5, 2) := by decide +kernel
theorem dX9_best_21 : decode cX9_best 21 = .ok (.bipush 8, 2) := by decide +kernel
theorem dX9_best_23 : decode cX9_best 23 = .ok (.if_icmp .ge 59, 3) := by decide +kernel
theorem dX9_best_26 : decode cX9_best 26 = .ok (.aload_n 0, 1) := by decide +kernel
theorem dX9_best_27 : decode cX9_best 27 = .ok (.iload 4, 2) := by decide +kernel
theorem dX9_best_29 : decode cX9_best 29 = .ok (.invokevirtual 66, 3) := by decide +kernel
theorem dX9_best_32 : decode cX9_best 32 = .ok (.iconst (-1), 1) := by decide +kernel
theorem dX9_best_33 : decode cX9_best 33 = .ok (.if_icmp .ne 49, 3) := by decide +kernel
theorem dX9_best_36 : decode cX9_best 36 = .ok (.aload_n 0, 1) := by decide +kernel
theorem dX9_best_37 : decode cX9_best 37 = .ok (.iload_n 1, 1) := by decide +kernel
theorem dX9_best_38 : decode cX9_best 38 = .ok (.iload 4, 2) := by decide +kernel
theorem dX9_best_40 : decode cX9_best 40 = .ok (.invokevirtual 121, 3) := by decide +kernel
theorem dX9_best_43 : decode cX9_best 43 = .ok (.iload_n 3, 1) := by decide +kernel
theorem dX9_best_44 : decode cX9_best 44 = .ok (.if_icmp .le 32, 3) := by decide +kernel
theorem dX9_best_47 : decode cX9_best 47 = .ok (.aload_n 0, 1) := by decide +kernel
theorem dX9_best_48 : decode cX9_best 48 = .ok (.iload_n 1, 1) := by decide +kernel
theorem dX9_best_49 : decode cX9_best 49 = .ok (.iload 4, 2) := by decide +kernel
theorem dX9_best_51 : decode cX9_best 51 = .ok (.iload 5, 2) := by decide +kernel
theorem dX9_best_53 : decode cX9_best 53 = .ok (.invokevirtual 114, 3) := by decide +kernel
theorem dX9_best_56 : decode cX9_best 56 = .ok (.ifCond .eq 20, 3) := by decide +kernel
theorem dX9_best_59 : decode cX9_best 59 = .ok (.bipush 10, 2) := by decide +kernel
theorem dX9_best_61 : decode cX9_best 61 = .ok (.iload 4, 2) := by decide +kernel
theorem dX9_best_63 : decode cX9_best 63 = .ok (.imul, 1) := by decide +kernel
theorem dX9_best_64 : decode cX9_best 64 = .ok (.iload 5, 2) := by decide +kernel
theorem dX9_best_66 : decode cX9_best 66 = .ok (.iadd, 1) := by decide +kernel
theorem dX9_best_67 : decode cX9_best 67 = .ok (.istore_n 2, 1) := by decide +kernel
theorem dX9_best_68 : decode cX9_best 68 = .ok (.aload_n 0, 1) := by decide +kernel
theorem dX9_best_69 : decode cX9_best 69 = .ok (.iload_n 1, 1) := by decide +kernel
theorem dX9_best_70 : decode cX9_best 70 = .ok (.iload 4, 2) := by decide +kernel
theorem dX9_best_72 : decode cX9_best 72 = .ok (.invokevirtual 121, 3) := by decide +kernel
theorem dX9_best_75 : decode cX9_best 75 = .ok (.istore_n 3, 1) := by decide +kernel
theorem dX9_best_76 : decode cX9_best 76 = .ok (.iinc 5 1, 3) := by decide +kernel
theorem dX9_best_79 : decode cX9_best 79 = .ok (.goto (-60), 3) := by decide +kernel
theorem dX9_best_82 : decode cX9_best 82 = .ok (.iinc 4 1, 3) := by decide +kernel
theorem dX9_best_85 : decode cX9_best 85 = .ok (.goto (-78), 3) := by decide +kernel
theorem dX9_best_88 : decode cX9_best 88 = .ok (.iload_n 2, 1) := by decide +kernel
theorem dX9_best_89 : decode cX9_best 89 = .ok (.ireturn, 1) := by decide +kernel
theorem dX9_bestFor_0 : decode cX9_bestFor 0 = .ok (.aload_n 0, 1) := by decide +kernel
theorem dX9_bestFor_1 : decode cX9_bestFor 1 = .ok (.iload_n 1, 1) := by decide +kernel
theorem dX9_bestFor_2 : decode cX9_bestFor 2 = .ok (.invokevirtual 86, 3) := by decide +kernel
theorem dX9_bestFor_5 : decode cX9_bestFor 5 = .ok (.ifCond .ne 7, 3) := by decide +kernel
theorem dX9_bestFor_8 : decode cX9_bestFor 8 = .ok (.sipush (-1001), 3) := by decide +kernel
theorem dX9_bestFor_11 : decode cX9_bestFor 11 = .ok (.ireturn, 1) := by decide +kernel
theorem dX9_bestFor_12 : decode cX9_bestFor 12 = .ok (.aload_n 0, 1) := by decide +kernel
theorem dX9_bestFor_13 : decode cX9_bestFor 13 = .ok (.iload_n 1, 1) := by decide +kernel
theorem dX9_bestFor_14 : decode cX9_bestFor 14 = .ok (.invokevirtual 76, 3) := by decide +kernel
theorem dX9_bestFor_17 : decode cX9_bestFor 17 = .ok (.ifCond .eq 7, 3) := by decide +kernel
theorem dX9_bestFor_20 : decode cX9_bestFor 20 = .ok (.sipush (-1002), 3) := by decide +kernel
theorem dX9_bestFor_23 : decode cX9_bestFor 23 = .ok (.ireturn, 1) := by decide +kernel
theorem dX9_bestFor_24 : decode cX9_bestFor 24 = .ok (.aload_n 0, 1) := by decide +kernel
theorem dX9_bestFor_25 : decode cX9_bestFor 25 = .ok (.iload_n 1, 1) := by decide +kernel
theorem dX9_bestFor_26 : decode cX9_bestFor 26 = .ok (.invokevirtual 124, 3) := by decide +kernel
theorem dX9_bestFor_29 : decode cX9_bestFor 29 = .ok (.istore_n 2, 1) := by decide +kernel
theorem dX9_bestFor_30 : decode cX9_bestFor 30 = .ok (.iload_n 2, 1) := by decide +kernel
theorem dX9_bestFor_31 : decode cX9_bestFor 31 = .ok (.iconst (-1), 1) := by decide +kernel
theorem dX9_bestFor_32 : decode cX9_bestFor 32 = .ok (.if_icmp .ne 9, 3) := by decide +kernel
theorem dX9_bestFor_35 : decode cX9_bestFor 35 = .ok (.sipush (-1004), 3) := by decide +kernel
theorem dX9_bestFor_38 : decode cX9_bestFor 38 = .ok (.goto 4, 3) := by decide +kernel
theorem dX9_bestFor_41 : decode cX9_bestFor 41 = .ok (.iload_n 2, 1) := by decide +kernel
theorem dX9_bestFor_42 : decode cX9_bestFor 42 = .ok (.ireturn, 1) := by decide +kernel
theorem dX9_fill_0 : decode cX9_fill 0 = .ok (.aload_n 0, 1) := by decide +kernel
theorem dX9_fill_1 : decode cX9_fill 1 = .ok (.invokevirtual 73, 3) := by decide +kernel
theorem dX9_fill_4 : decode cX9_fill 4 = .ok (.iconst 0, 1) := by decide +kernel
theorem dX9_fill_5 : decode cX9_fill 5 = .ok (.istore_n 1, 1) := by decide +kernel
theorem dX9_fill_6 : decode cX9_fill 6 = .ok (.iconst 0, 1) := by decide +kernel
theorem dX9_fill_7 : decode cX9_fill 7 = .ok (.istore_n 2, 1) := by decide +kernel
theorem dX9_fill_8 : decode cX9_fill 8 = .ok (.iload_n 2, 1) := by decide +kernel
theorem dX9_fill_9 : decode cX9_fill 9 = .ok (.aload_n 0, 1) := by decide +kernel
theorem dX9_fill_10 : decode cX9_fill 10 = .ok (.getfield 7, 3) := by decide +kernel
theorem dX9_fill_13 : decode cX9_fill 13 = .ok (.iconst 2, 1) := by decide +kernel
theorem dX9_fill_14 : decode cX9_fill 14 = .ok (.iaload, 1) := by decide +kernel
theorem dX9_fill_15 : decode cX9_fill 15 = .ok (.if_icmp .ge 58, 3) := by decide +kernel
theorem dX9_fill_18 : decode cX9_fill 18 = .ok (.aload_n 0, 1) := by decide +kernel
theorem dX9_fill_19 : decode cX9_fill 19 = .ok (.iload_n 2, 1) := by decide +kernel
theorem dX9_fill_20 : decode cX9_fill 20 = .ok (.invokevirtual 76, 3) := by decide +kernel
theorem dX9_fill_23 : decode cX9_fill 23 = .ok (.ifCond .eq 7, 3) := by decide +kernel
theorem dX9_fill_26 : decode cX9_fill 26 = .ok (.iconst (-1), 1) := by decide +kernel
theorem dX9_fill_27 : decode cX9_fill 27 = .ok (.goto 8, 3) := by decide +kernel
theorem dX9_fill_30 : decode cX9_fill 30 = .ok (.aload_n 0, 1) := by decide +kernel
theorem dX9_fill_31 : decode cX9_fill 31 = .ok (.iload_n 2, 1) := by decide +kernel
theorem dX9_fill_32 : decode cX9_fill 32 = .ok (.invokevirtual 124, 3) := by decide +kernel
theorem dX9_fill_35 : decode cX9_fill 35 = .ok (.istore_n 3, 1) := by decide +kernel
theorem dX9_fill_36 : decode cX9_fill 36 = .ok (.iload_n 3, 1) := by decide +kernel
theorem dX9_fill_37 : decode cX9_fill 37 = .ok (.iconst (-1), 1) := by decide +kernel
theorem dX9_fill_38 : decode cX9_fill 38 = .ok (.if_icmp .eq 19, 3) := by decide +kernel
theorem dX9_fill_41 : decode cX9_fill 41 = .ok (.aload_n 0, 1) := by decide +kernel
theorem dX9_fill_42 : decode cX9_fill 42 = .ok (.iload_n 2, 1) := by decide +kernel
theorem dX9_fill_43 : decode cX9_fill 43 = .ok (.iload_n 3, 1) := by decide +kernel
theorem dX9_fill_44 : decode cX9_fill 44 = .ok (.bipush 10, 2) := by decide +kernel
theorem dX9_fill_46 : decode cX9_fill 46 = .ok (.idiv, 1) := by decide +kernel
theorem dX9_fill_47 : decode cX9_fill 47 = .ok (.iload_n 3, 1) := by decide +kernel
theorem dX9_fill_48 : decode cX9_fill 48 = .ok (.bipush 10, 2) := by decide +kernel
theorem dX9_fill_50 : decode cX9_fill 50 = .ok (.irem, 1) := by decide +kernel
theorem dX9_fill_51 : decode cX9_fill 51 = .ok (.invokevirtual 117, 3) := by decide +kernel
theorem dX9_fill_54 : decode cX9_fill 54 = .ok (.iinc 1 1, 3) := by decide +kernel
theorem dX9_fill_57 : decode cX9_fill 57 = .ok (.iload_n 3, 1) := by decide +kernel
theorem dX9_fill_58 : decode cX9_fill 58 = .ok (.iconst (-1), 1) := by decide +kernel
theorem dX9_fill_59 : decode cX9_fill 59 = .ok (.if_icmp .ne 9, 3) := by decide +kernel
theorem dX9_fill_62 : decode cX9_fill 62 = .ok (.iload_n 2, 1) := by decide +kernel
theorem dX9_fill_63 : decode cX9_fill 63 = .ok (.iconst 1, 1) := by decide +kernel
theorem dX9_fill_64 : decode cX9_fill 64 = .ok (.iadd, 1) := by decide +kernel
theorem dX9_fill_65 : decode cX9_fill 65 = .ok (.goto 4, 3) := by decide +kernel
theorem dX9_fill_68 : decode cX9_fill 68 = .ok (.iconst 0, 1) := by decide +kernel
theorem dX9_fill_69 : decode cX9_fill 69 = .ok (.istore_n 2, 1) := by decide +kernel
theorem dX9_fill_70 : decode cX9_fill 70 = .ok (.goto (-62), 3) := by decide +kernel
theorem dX9_fill_73 : decode cX9_fill 73 = .ok (.iload_n 1, 1) := by decide +kernel
theorem dX9_fill_74 : decode cX9_fill 74 = .ok (.ireturn, 1) := by decide +kernel
theorem dX9_member_0 : decode cX9_member 0 = .ok (.aload_n 0, 1) := by decide +kernel
theorem dX9_member_1 : decode cX9_member 1 = .ok (.invokevirtual 89, 3) := by decide +kernel
theorem dX9_member_4 : decode cX9_member 4 = .ok (.iload_n 1, 1) := by decide +kernel
theorem dX9_member_5 : decode cX9_member 5 = .ok (.iconst 0, 1) := by decide +kernel
theorem dX9_member_6 : decode cX9_member 6 = .ok (.aload_n 0, 1) := by decide +kernel
theorem dX9_member_7 : decode cX9_member 7 = .ok (.getfield 99, 3) := by decide +kernel
theorem dX9_member_10 : decode cX9_member 10 = .ok (.iconst 1, 1) := by decide +kernel
theorem dX9_member_11 : decode cX9_member 11 = .ok (.isub, 1) := by decide +kernel
theorem dX9_member_12 : decode cX9_member 12 = .ok (.invokestatic 38, 3) := by decide +kernel
theorem dX9_member_15 : decode cX9_member 15 = .ok (.ifCond .eq 7, 3) := by decide +kernel
theorem dX9_member_18 : decode cX9_member 18 = .ok (.iload_n 2, 1) := by decide +kernel
theorem dX9_member_19 : decode cX9_member 19 = .ok (.ifCond .ge 7, 3) := by decide +kernel
theorem dX9_member_22 : decode cX9_member 22 = .ok (.sipush (-1001), 3) := by decide +kernel
theorem dX9_member_25 : decode cX9_member 25 = .ok (.ireturn, 1) := by decide +kernel
theorem dX9_member_26 : decode cX9_member 26 = .ok (.iload_n 2, 1) := by decide +kernel
theorem dX9_member_27 : decode cX9_member 27 = .ok (.istore_n 3, 1) := by decide +kernel
theorem dX9_member_28 : decode cX9_member 28 = .ok (.iconst 0, 1) := by decide +kernel
theorem dX9_member_29 : decode cX9_member 29 = .ok (.istore 4, 2) := by decide +kernel
theorem dX9_member_31 : decode cX9_member 31 = .ok (.iload 4, 2) := by decide +kernel
theorem dX9_member_33 : decode cX9_member 33 = .ok (.aload_n 0, 1) := by decide +kernel
theorem dX9_member_34 : decode cX9_member 34 = .ok (.getfield 7, 3) := by decide +kernel
theorem dX9_member_37 : decode cX9_member 37 = .ok (.iconst 2, 1) := by decide +kernel
theorem dX9_member_38 : decode cX9_member 38 = .ok (.iaload, 1) := by decide +kernel
theorem dX9_member_39 : decode cX9_member 39 = .ok (.if_icmp .ge 30, 3) := by decide +kernel
theorem dX9_member_42 : decode cX9_member 42 = .ok (.aload_n 0, 1) := by decide +kernel
theorem dX9_member_43 : decode cX9_member 43 = .ok (.getfield 29, 3) := by decide +kernel
theorem dX9_member_46 : decode cX9_member 46 = .ok (.iload 4, 2) := by decide +kernel
theorem dX9_member_48 : decode cX9_member 48 = .ok (.iaload, 1) := by decide +kernel
theorem dX9_member_49 : decode cX9_member 49 = .ok (.iload_n 1, 1) := by decide +kernel
theorem dX9_member_50 : decode cX9_member 50 = .ok (.if_icmp .ne 13, 3) := by decide +kernel
theorem dX9_member_53 : decode cX9_member 53 = .ok (.iload_n 3, 1) := by decide +kernel
theorem dX9_member_54 : decode cX9_member 54 = .ok (.ifCond .ne 6, 3) := by decide +kernel
theorem dX9_member_57 : decode cX9_member 57 = .ok (.iload 4, 2) := by decide +kernel
theorem dX9_member_59 : decode cX9_member 59 = .ok (.ireturn, 1) := by decide +kernel
theorem dX9_member_60 : decode cX9_member 60 = .ok (.iinc 3 (-1), 3) := by decide +kernel
theorem dX9_member_63 : decode cX9_member 63 = .ok (.iinc 4 1, 3) := by decide +kernel
theorem dX9_member_66 : decode cX9_member 66 = .ok (.goto (-35), 3) := by decide +kernel
theorem dX9_member_69 : decode cX9_member 69 = .ok (.sipush (-1004), 3) := by decide +kernel
theorem dX9_member_72 : decode cX9_member 72 = .ok (.ireturn, 1) := by decide +kernel
theorem dX9_fillsAll_0 : decode cX9_fillsAll 0 = .ok (.iconst 0, 1) := by decide +kernel
theorem dX9_fillsAll_1 : decode cX9_fillsAll 1 = .ok (.istore_n 1, 1) := by decide +kernel
theorem dX9_fillsAll_2 : decode cX9_fillsAll 2 = .ok (.aload_n 0, 1) := by decide +kernel
theorem dX9_fillsAll_3 : decode cX9_fillsAll 3 = .ok (.getfield 32, 3) := by decide +kernel
theorem dX9_fillsAll_6 : decode cX9_fillsAll 6 = .ok (.iconst 0, 1) := by decide +kernel
theorem dX9_fillsAll_7 : decode cX9_fillsAll 7 = .ok (.iconst (-1), 1) := by decide +kernel
theorem dX9_fillsAll_8 : decode cX9_fillsAll 8 = .ok (.iastore, 1) := by decide +kernel
theorem dX9_fillsAll_9 : decode cX9_fillsAll 9 = .ok (.iload_n 1, 1) := by decide +kernel
theorem dX9_fillsAll_10 : decode cX9_fillsAll 10 = .ok (.iconst 0, 1) := by decide +kernel
theorem dX9_fillsAll_11 : decode cX9_fillsAll 11 = .ok (.aload_n 0, 1) := by decide +kernel
theorem dX9_fillsAll_12 : decode cX9_fillsAll 12 = .ok (.invokevirtual 42, 3) := by decide +kernel
theorem dX9_fillsAll_15 : decode cX9_fillsAll 15 = .ok (.iconst 1, 1) := by decide +kernel
theorem dX9_fillsAll_16 : decode cX9_fillsAll 16 = .ok (.isub, 1) := by decide +kernel
theorem dX9_fillsAll_17 : decode cX9_fillsAll 17 = .ok (.invokestatic 38, 3) := by decide +kernel
theorem dX9_fillsAll_20 : decode cX9_fillsAll 20 = .ok (.ifCond .eq 119, 3) := by decide +kernel
theorem dX9_fillsAll_23 : decode cX9_fillsAll 23 = .ok (.aload_n 0, 1) := by decide +kernel
theorem dX9_fillsAll_24 : decode cX9_fillsAll 24 = .ok (.iload_n 1, 1) := by decide +kernel
theorem dX9_fillsAll_25 : decode cX9_fillsAll 25 = .ok (.invokevirtual 66, 3) := by decide +kernel
theorem dX9_fillsAll_28 : decode cX9_fillsAll 28 = .ok (.istore_n 2, 1) := by decide +kernel
theorem dX9_fillsAll_29 : decode cX9_fillsAll 29 = .ok (.iload_n 2, 1) := by decide +kernel
theorem dX9_fillsAll_30 : decode cX9_fillsAll 30 = .ok (.iconst (-1), 1) := by decide +kernel
theorem dX9_fillsAll_31 : decode cX9_fillsAll 31 = .ok (.if_icmp .eq 10, 3) := by decide +kernel
theorem dX9_fillsAll_34 : decode cX9_fillsAll 34 = .ok (.aload_n 0, 1) := by decide +kernel
theorem dX9_fillsAll_35 : decode cX9_fillsAll 35 = .ok (.iload_n 2, 1) := by decide +kernel
theorem dX9_fillsAll_36 : decode cX9_fillsAll 36 = .ok (.iconst (-1), 1) := by decide +kernel
theorem dX9_fillsAll_37 : decode cX9_fillsAll 37 = .ok (.iconst 0, 1) := by decide +kernel
theorem dX9_fillsAll_38 : decode cX9_fillsAll 38 = .ok (.invokevirtual 117, 3) := by decide +kernel
theorem dX9_fillsAll_41 : decode cX9_fillsAll 41 = .ok (.aload_n 0, 1) := by decide +kernel
theorem dX9_fillsAll_42 : decode cX9_fillsAll 42 = .ok (.getfield 32, 3) := by decide +kernel
theorem dX9_fillsAll_45 : decode cX9_fillsAll 45 = .ok (.iload_n 1, 1) := by decide +kernel
theorem dX9_fillsAll_46 : decode cX9_fillsAll 46 = .ok (.dup2, 1) := by decide +kernel
theorem dX9_fillsAll_47 : decode cX9_fillsAll 47 = .ok (.iaload, 1) := by decide +kernel
theorem dX9_fillsAll_48 : decode cX9_fillsAll 48 = .ok (.iconst 1, 1) := by decide +kernel
theorem dX9_fillsAll_49 : decode cX9_fillsAll 49 = .ok (.iadd, 1) := by decide +kernel
theorem dX9_fillsAll_50 : decode cX9_fillsAll 50 = .ok (.iastore, 1) := by decide +kernel
theorem dX9_fillsAll_51 : decode cX9_fillsAll 51 = .ok (.aload_n 0, 1) := by decide +kernel
theorem dX9_fillsAll_52 : decode cX9_fillsAll 52 = .ok (.getfield 32, 3) := by decide +kernel
theorem dX9_fillsAll_55 : decode cX9_fillsAll 55 = .ok (.iload_n 1, 1) := by decide +kernel
theorem dX9_fillsAll_56 : decode cX9_fillsAll 56 = .ok (.iaload, 1) := by decide +kernel
theorem dX9_fillsAll_57 : decode cX9_fillsAll 57 = .ok (.bipush 8, 2) := by decide +kernel
theorem dX9_fillsAll_59 : decode cX9_fillsAll 59 = .ok (.idiv, 1) := by decide +kernel
theorem dX9_fillsAll_60 : decode cX9_fillsAll 60 = .ok (.istore_n 3, 1) := by decide +kernel
theorem dX9_fillsAll_61 : decode cX9_fillsAll 61 = .ok (.iload_n 3, 1) := by decide +kernel
theorem dX9_fillsAll_62 : decode cX9_fillsAll 62 = .ok (.aload_n 0, 1) := by decide +kernel
theorem dX9_fillsAll_63 : decode cX9_fillsAll 63 = .ok (.getfield 7, 3) := by decide +kernel
theorem dX9_fillsAll_66 : decode cX9_fillsAll 66 = .ok (.iconst 2, 1) := by decide +kernel
theorem dX9_fillsAll_67 : decode cX9_fillsAll 67 = .ok (.iaload, 1) := by decide +kernel
theorem dX9_fillsAll_68 : decode cX9_fillsAll 68 = .ok (.if_icmp .ne 9, 3) := by decide +kernel
theorem dX9_fillsAll_71 : decode cX9_fillsAll 71 = .ok (.iinc 1 (-1), 3) := by decide +kernel
theorem dX9_fillsAll_74 : decode cX9_fillsAll 74 = .ok (.goto 62, 3) := by decide +kernel
theorem dX9_fillsAll_77 : decode cX9_fillsAll 77 = .ok (.aload_n 0, 1) := by decide +kernel
theorem dX9_fillsAll_78 : decode cX9_fillsAll 78 = .ok (.iload_n 3, 1) := by decide +kernel
theorem dX9_fillsAll_79 : decode cX9_fillsAll 79 = .ok (.invokevirtual 76, 3) := by decide +kernel
theorem dX9_fillsAll_82 : decode cX9_fillsAll 82 = .ok (.ifCond .ne 54, 3) := by decide +kernel
theorem dX9_fillsAll_85 : decode cX9_fillsAll 85 = .ok (.aload_n 0, 1) := by decide +kernel
theorem dX9_fillsAll_86 : decode cX9_fillsAll 86 = .ok (.iload_n 3, 1) := by decide +kernel
theorem dX9_fillsAll_87 : decode cX9_fillsAll 87 = .ok (.iload_n 1, 1) := by decide +kernel
theorem dX9_fillsAll_88 : decode cX9_fillsAll 88 = .ok (.aload_n 0, 1) := by decide +kernel
theorem dX9_fillsAll_89 : decode cX9_fillsAll 89 = .ok (.getfield 32, 3) := by decide +kernel
theorem dX9_fillsAll_92 : decode cX9_fillsAll 92 = .ok (.iload_n 1, 1) := by decide +kernel
theorem dX9_fillsAll_93 : decode cX9_fillsAll 93 = .ok (.iaload, 1) := by decide +kernel
theorem dX9_fillsAll_94 : decode cX9_fillsAll 94 = .ok (.bipush 8, 2) := by decide +kernel
theorem dX9_fillsAll_96 : decode cX9_fillsAll 96 = .ok (.irem, 1) := by decide +kernel
theorem dX9_fillsAll_97 : decode cX9_fillsAll 97 = .ok (.invokevirtual 114, 3) := by decide +kernel
theorem dX9_fillsAll_100 : decode cX9_fillsAll 100 = .ok (.ifCond .eq 36, 3) := by decide +kernel
theorem dX9_fillsAll_103 : decode cX9_fillsAll 103 = .ok (.aload_n 0, 1) := by decide +kernel
theorem dX9_fillsAll_104 : decode cX9_fillsAll 104 = .ok (.iload_n 3, 1) := by decide +kernel
theorem dX9_fillsAll_105 : decode cX9_fillsAll 105 = .ok (.iload_n 1, 1) := by decide +kernel
theorem dX9_fillsAll_106 : decode cX9_fillsAll 106 = .ok (.aload_n 0, 1) := by decide +kernel
theorem dX9_fillsAll_107 : decode cX9_fillsAll 107 = .ok (.getfield 32, 3) := by decide +kernel
theorem dX9_fillsAll_110 : decode cX9_fillsAll 110 = .ok (.iload_n 1, 1) := by decide +kernel
theorem dX9_fillsAll_111 : decode cX9_fillsAll 111 = .ok (.iaload, 1) := by decide +kernel
theorem dX9_fillsAll_112 : decode cX9_fillsAll 112 = .ok (.bipush 8, 2) := by decide +kernel
theorem dX9_fillsAll_114 : decode cX9_fillsAll 114 = .ok (.irem, 1) := by decide +kernel
theorem dX9_fillsAll_115 : decode cX9_fillsAll 115 = .ok (.invokevirtual 117, 3) := by decide +kernel
theorem dX9_fillsAll_118 : decode cX9_fillsAll 118 = .ok (.iinc 1 1, 3) := by decide +kernel
theorem dX9_fillsAll_121 : decode cX9_fillsAll 121 = .ok (.iload_n 1, 1) := by decide +kernel
theorem dX9_fillsAll_122 : decode cX9_fillsAll 122 = .ok (.aload_n 0, 1) := by decide +kernel
theorem dX9_fillsAll_123 : decode cX9_fillsAll 123 = .ok (.invokevirtual 42, 3) := by decide +kernel
theorem dX9_fillsAll_126 : decode cX9_fillsAll 126 = .ok (.if_icmp .ge 10, 3) := by decide +kernel
theorem dX9_fillsAll_129 : decode cX9_fillsAll 129 = .ok (.aload_n 0, 1) := by decide +kernel
theorem dX9_fillsAll_130 : decode cX9_fillsAll 130 = .ok (.getfield 32, 3) := by decide +kernel
theorem dX9_fillsAll_133 : decode cX9_fillsAll 133 = .ok (.iload_n 1, 1) := by decide +kernel
theorem dX9_fillsAll_134 : decode cX9_fillsAll 134 = .ok (.iconst (-1), 1) := by decide +kernel
theorem dX9_fillsAll_135 : decode cX9_fillsAll 135 = .ok (.iastore, 1) := by decide +kernel
theorem dX9_fillsAll_136 : decode cX9_fillsAll 136 = .ok (.goto (-127), 3) := by decide +kernel
theorem dX9_fillsAll_139 : decode cX9_fillsAll 139 = .ok (.iload_n 1, 1) := by decide +kernel
theorem dX9_fillsAll_140 : decode cX9_fillsAll 140 = .ok (.aload_n 0, 1) := by decide +kernel
theorem dX9_fillsAll_141 : decode cX9_fillsAll 141 = .ok (.invokevirtual 42, 3) := by decide +kernel
theorem dX9_fillsAll_144 : decode cX9_fillsAll 144 = .ok (.if_icmp .ne 7, 3) := by decide +kernel
theorem dX9_fillsAll_147 : decode cX9_fillsAll 147 = .ok (.iconst 1, 1) := by decide +kernel
theorem dX9_fillsAll_148 : decode cX9_fillsAll 148 = .ok (.goto 4, 3) := by decide +kernel
theorem dX9_fillsAll_151 : decode cX9_fillsAll 151 = .ok (.iconst 0, 1) := by decide +kernel
theorem dX9_fillsAll_152 : decode cX9_fillsAll 152 = .ok (.ireturn, 1) := by decide +kernel
theorem dX9_canFill_0 : decode cX9_canFill 0 = .ok (.aload_n 0, 1) := by decide +kernel
theorem dX9_canFill_1 : decode cX9_canFill 1 = .ok (.getfield 7, 3) := by decide +kernel
theorem dX9_canFill_4 : decode cX9_canFill 4 = .ok (.iconst 2, 1) := by decide +kernel
theorem dX9_canFill_5 : decode cX9_canFill 5 = .ok (.iaload, 1) := by decide +kernel
theorem dX9_canFill_6 : decode cX9_canFill 6 = .ok (.aload_n 0, 1) := by decide +kernel
theorem dX9_canFill_7 : decode cX9_canFill 7 = .ok (.invokevirtual 42, 3) := by decide +kernel
theorem dX9_canFill_10 : decode cX9_canFill 10 = .ok (.if_icmp .ne 12, 3) := by decide +kernel
theorem dX9_canFill_13 : decode cX9_canFill 13 = .ok (.aload_n 0, 1) := by decide +kernel
theorem dX9_canFill_14 : decode cX9_canFill 14 = .ok (.invokevirtual 42, 3) := by decide +kernel
theorem dX9_canFill_17 : decode cX9_canFill 17 = .ok (.bipush 6, 2) := by decide +kernel
theorem dX9_canFill_19 : decode cX9_canFill 19 = .ok (.if_icmp .le 7, 3) := by decide +kernel
theorem dX9_canFill_22 : decode cX9_canFill 22 = .ok (.sipush (-1002), 3) := by decide +kernel
theorem dX9_canFill_25 : decode cX9_canFill 25 = .ok (.ireturn, 1) := by decide +kernel
theorem dX9_canFill_26 : decode cX9_canFill 26 = .ok (.iconst 0, 1) := by decide +kernel
theorem dX9_canFill_27 : decode cX9_canFill 27 = .ok (.istore_n 1, 1) := by decide +kernel
theorem dX9_canFill_28 : decode cX9_canFill 28 = .ok (.iload_n 1, 1) := by decide +kernel
theorem dX9_canFill_29 : decode cX9_canFill 29 = .ok (.sipush 135, 3) := by decide +kernel
theorem dX9_canFill_32 : decode cX9_canFill 32 = .ok (.if_icmp .ge 21, 3) := by decide +kernel
theorem dX9_canFill_35 : decode cX9_canFill 35 = .ok (.aload_n 0, 1) := by decide +kernel
theorem dX9_canFill_36 : decode cX9_canFill 36 = .ok (.getfield 35, 3) := by decide +kernel
theorem dX9_canFill_39 : decode cX9_canFill 39 = .ok (.iload_n 1, 1) := by decide +kernel
theorem dX9_canFill_40 : decode cX9_canFill 40 = .ok (.aload_n 0, 1) := by decide +kernel
theorem dX9_canFill_41 : decode cX9_canFill 41 = .ok (.getfield 7, 3) := by decide +kernel
theorem dX9_canFill_44 : decode cX9_canFill 44 = .ok (.iload_n 1, 1) := by decide +kernel
theorem dX9_canFill_45 : decode cX9_canFill 45 = .ok (.iaload, 1) := by decide +kernel
theorem dX9_canFill_46 : decode cX9_canFill 46 = .ok (.iastore, 1) := by decide +kernel
theorem dX9_canFill_47 : decode cX9_canFill 47 = .ok (.iinc 1 1, 3) := by decide +kernel
theorem dX9_canFill_50 : decode cX9_canFill 50 = .ok (.goto (-22), 3) := by decide +kernel
theorem dX9_canFill_53 : decode cX9_canFill 53 = .ok (.iconst 0, 1) := by decide +kernel
theorem dX9_canFill_54 : decode cX9_canFill 54 = .ok (.istore_n 1, 1) := by decide +kernel
theorem dX9_canFill_55 : decode cX9_canFill 55 = .ok (.iload_n 1, 1) := by decide +kernel
theorem dX9_canFill_56 : decode cX9_canFill 56 = .ok (.aload_n 0, 1) := by decide +kernel
theorem dX9_canFill_57 : decode cX9_canFill 57 = .ok (.getfield 7, 3) := by decide +kernel
theorem dX9_canFill_60 : decode cX9_canFill 60 = .ok (.iconst 2, 1) := by decide +kernel
theorem dX9_canFill_61 : decode cX9_canFill 61 = .ok (.iaload, 1) := by decide +kernel
theorem dX9_canFill_62 : decode cX9_canFill 62 = .ok (.if_icmp .ge 16, 3) := by decide +kernel
theorem dX9_canFill_65 : decode cX9_canFill 65 = .ok (.aload_n 0, 1) := by decide +kernel
theorem dX9_canFill_66 : decode cX9_canFill 66 = .ok (.iload_n 1, 1) := by decide +kernel
theorem dX9_canFill_67 : decode cX9_canFill 67 = .ok (.iconst (-1), 1) := by decide +kernel
theorem dX9_canFill_68 : decode cX9_canFill 68 = .ok (.iconst 0, 1) := by decide +kernel
theorem dX9_canFill_69 : decode cX9_canFill 69 = .ok (.invokevirtual 117, 3) := by decide +kernel
theorem dX9_canFill_72 : decode cX9_canFill 72 = .ok (.iinc 1 1, 3) := by decide +kernel
theorem dX9_canFill_75 : decode cX9_canFill 75 = .ok (.goto (-20), 3) := by decide +kernel
theorem dX9_canFill_78 : decode cX9_canFill 78 = .ok (.aload_n 0, 1) := by decide +kernel
theorem dX9_canFill_79 : decode cX9_canFill 79 = .ok (.invokevirtual 127, 3) := by decide +kernel
theorem dX9_canFill_82 : decode cX9_canFill 82 = .ok (.istore_n 1, 1) := by decide +kernel
theorem dX9_canFill_83 : decode cX9_canFill 83 = .ok (.iconst 0, 1) := by decide +kernel
theorem dX9_canFill_84 : decode cX9_canFill 84 = .ok (.istore_n 2, 1) := by decide +kernel
theorem dX9_canFill_85 : decode cX9_canFill 85 = .ok (.iload_n 2, 1) := by decide +kernel
theorem dX9_canFill_86 : decode cX9_canFill 86 = .ok (.sipush 135, 3) := by decide +kernel
theorem dX9_canFill_89 : decode cX9_canFill 89 = .ok (.if_icmp .ge 21, 3) := by decide +kernel
theorem dX9_canFill_92 : decode cX9_canFill 92 = .ok (.aload_n 0, 1) := by decide +kernel
theorem dX9_canFill_93 : decode cX9_canFill 93 = .ok (.getfield 7, 3) := by decide +kernel
theorem dX9_canFill_96 : decode cX9_canFill 96 = .ok (.iload_n 2, 1) := by decide +kernel
theorem dX9_canFill_97 : decode cX9_canFill 97 = .ok (.aload_n 0, 1) := by decide +kernel
theorem dX9_canFill_98 : decode cX9_canFill 98 = .ok (.getfield 35, 3) := by decide +kernel
theorem dX9_canFill_101 : decode cX9_canFill 101 = .ok (.iload_n 2, 1) := by decide +kernel
theorem dX9_canFill_102 : decode cX9_canFill 102 = .ok (.iaload, 1) := by decide +kernel
theorem dX9_canFill_103 : decode cX9_canFill 103 = .ok (.iastore, 1) := by decide +kernel
theorem dX9_canFill_104 : decode cX9_canFill 104 = .ok (.iinc 2 1, 3) := by decide +kernel
theorem dX9_canFill_107 : decode cX9_canFill 107 = .ok (.goto (-22), 3) := by decide +kernel
theorem dX9_canFill_110 : decode cX9_canFill 110 = .ok (.iload_n 1, 1) := by decide +kernel
theorem dX9_canFill_111 : decode cX9_canFill 111 = .ok (.ifCond .eq 7, 3) := by decide +kernel
theorem dX9_canFill_114 : decode cX9_canFill 114 = .ok (.iconst 1, 1) := by decide +kernel
theorem dX9_canFill_115 : decode cX9_canFill 115 = .ok (.goto 4, 3) := by decide +kernel
theorem dX9_canFill_118 : decode cX9_canFill 118 = .ok (.iconst 0, 1) := by decide +kernel
theorem dX9_canFill_119 : decode cX9_canFill 119 = .ok (.ireturn, 1) := by decide +kernel
theorem dX9_type_0 : decode cX9_type 0 = .ok (.iload_n 1, 1) := by decide +kernel
theorem dX9_type_1 : decode cX9_type 1 = .ok (.bipush 32, 2) := by decide +kernel
theorem dX9_type_3 : decode cX9_type 3 = .ok (.bipush 126, 2) := by decide +kernel
theorem dX9_type_5 : decode cX9_type 5 = .ok (.invokestatic 38, 3) := by decide +kernel
theorem dX9_type_8 : decode cX9_type 8 = .ok (.ifCond .ne 7, 3) := by decide +kernel
theorem dX9_type_11 : decode cX9_type 11 = .ok (.sipush (-1001), 3) := by decide +kernel
theorem dX9_type_14 : decode cX9_type 14 = .ok (.ireturn, 1) := by decide +kernel
theorem dX9_type_15 : decode cX9_type 15 = .ok (.aload_n 0, 1) := by decide +kernel
theorem dX9_type_16 : decode cX9_type 16 = .ok (.getfield 105, 3) := by decide +kernel
theorem dX9_type_19 : decode cX9_type 19 = .ok (.bipush 60, 2) := by decide +kernel
theorem dX9_type_21 : decode cX9_type 21 = .ok (.if_icmp .ne 7, 3) := by decide +kernel
theorem dX9_type_24 : decode cX9_type 24 = .ok (.sipush (-1003), 3) := by decide +kernel
theorem dX9_type_27 : decode cX9_type 27 = .ok (.ireturn, 1) := by decide +kernel
theorem dX9_type_28 : decode cX9_type 28 = .ok (.aload_n 0, 1) := by decide +kernel
theorem dX9_type_29 : decode cX9_type 29 = .ok (.getfield 16, 3) := by decide +kernel
theorem dX9_type_32 : decode cX9_type 32 = .ok (.aload_n 0, 1) := by decide +kernel
theorem dX9_type_33 : decode cX9_type 33 = .ok (.getfield 105, 3) := by decide +kernel
theorem dX9_type_36 : decode cX9_type 36 = .ok (.iload_n 1, 1) := by decide +kernel
theorem dX9_type_37 : decode cX9_type 37 = .ok (.i2c, 1) := by decide +kernel
theorem dX9_type_38 : decode cX9_type 38 = .ok (.castore, 1) := by decide +kernel
theorem dX9_type_39 : decode cX9_type 39 = .ok (.aload_n 0, 1) := by decide +kernel
theorem dX9_type_40 : decode cX9_type 40 = .ok (.dup, 1) := by decide +kernel
theorem dX9_type_41 : decode cX9_type 41 = .ok (.getfield 105, 3) := by decide +kernel
theorem dX9_type_44 : decode cX9_type 44 = .ok (.iconst 1, 1) := by decide +kernel
theorem dX9_type_45 : decode cX9_type 45 = .ok (.iadd, 1) := by decide +kernel
theorem dX9_type_46 : decode cX9_type 46 = .ok (.putfield 105, 3) := by decide +kernel
theorem dX9_type_49 : decode cX9_type 49 = .ok (.aload_n 0, 1) := by decide +kernel
theorem dX9_type_50 : decode cX9_type 50 = .ok (.getfield 105, 3) := by decide +kernel
theorem dX9_type_53 : decode cX9_type 53 = .ok (.ireturn, 1) := by decide +kernel
theorem dX9_clearText_0 : decode cX9_clearText 0 = .ok (.aload_n 0, 1) := by decide +kernel
theorem dX9_clearText_1 : decode cX9_clearText 1 = .ok (.getfield 105, 3) := by decide +kernel
theorem dX9_clearText_4 : decode cX9_clearText 4 = .ok (.istore_n 1, 1) := by decide +kernel
theorem dX9_clearText_5 : decode cX9_clearText 5 = .ok (.aload_n 0, 1) := by decide +kernel
theorem dX9_clearText_6 : decode cX9_clearText 6 = .ok (.iconst 0, 1) := by decide +kernel
theorem dX9_clearText_7 : decode cX9_clearText 7 = .ok (.putfield 105, 3) := by decide +kernel
theorem dX9_clearText_10 : decode cX9_clearText 10 = .ok (.iload_n 1, 1) := by decide +kernel
theorem dX9_clearText_11 : decode cX9_clearText 11 = .ok (.ireturn, 1) := by decide +kernel
theorem dX9_signAt_0 : decode cX9_signAt 0 = .ok (.iload_n 1, 1) := by decide +kernel
theorem dX9_signAt_1 : decode cX9_signAt 1 = .ok (.aload_n 0, 1) := by decide +kernel
