theorem dX8_scrap_44 : decode cX8_scrap 44 = .ok (.iload_n 2, 1) := by decide +kernel
theorem dX8_scrap_45 : decode cX8_scrap 45 = .ok (.tableswitch 100 0 4 #[35, 47, 59, 71, 91], 35) := by decide +kernel
theorem dX8_scrap_80 : decode cX8_scrap 80 = .ok (.aload_n 0, 1) := by decide +kernel
theorem dX8_scrap_81 : decode cX8_scrap 81 = .ok (.getfield 10, 3) := by decide +kernel
theorem dX8_scrap_84 : decode cX8_scrap 84 = .ok (.getfield 73, 3) := by decide +kernel
theorem dX8_scrap_87 : decode cX8_scrap 87 = .ok (.iload_n 1, 1) := by decide +kernel
theorem dX8_scrap_88 : decode cX8_scrap 88 = .ok (.invokevirtual 113, 3) := by decide +kernel
theorem dX8_scrap_91 : decode cX8_scrap 91 = .ok (.ireturn, 1) := by decide +kernel
theorem dX8_scrap_92 : decode cX8_scrap 92 = .ok (.aload_n 0, 1) := by decide +kernel
theorem dX8_scrap_93 : decode cX8_scrap 93 = .ok (.getfield 10, 3) := by decide +kernel
theorem dX8_scrap_96 : decode cX8_scrap 96 = .ok (.getfield 59, 3) := by decide +kernel
theorem dX8_scrap_99 : decode cX8_scrap 99 = .ok (.iload_n 1, 1) := by decide +kernel
theorem dX8_scrap_100 : decode cX8_scrap 100 = .ok (.invokevirtual 117, 3) := by decide +kernel
theorem dX8_scrap_103 : decode cX8_scrap 103 = .ok (.ireturn, 1) := by decide +kernel
theorem dX8_scrap_104 : decode cX8_scrap 104 = .ok (.aload_n 0, 1) := by decide +kernel
theorem dX8_scrap_105 : decode cX8_scrap 105 = .ok (.getfield 10, 3) := by decide +kernel
theorem dX8_scrap_108 : decode cX8_scrap 108 = .ok (.getfield 59, 3) := by decide +kernel
theorem dX8_scrap_111 : decode cX8_scrap 111 = .ok (.iload_n 1, 1) := by decide +kernel
theorem dX8_scrap_112 : decode cX8_scrap 112 = .ok (.invokevirtual 120, 3) := by decide +kernel
theorem dX8_scrap_115 : decode cX8_scrap 115 = .ok (.ireturn, 1) := by decide +kernel
theorem dX8_scrap_116 : decode cX8_scrap 116 = .ok (.aload_n 0, 1) := by decide +kernel
theorem dX8_scrap_117 : decode cX8_scrap 117 = .ok (.getfield 29, 3) := by decide +kernel
theorem dX8_scrap_120 : decode cX8_scrap 120 = .ok (.aload_n 0, 1) := by decide +kernel
theorem dX8_scrap_121 : decode cX8_scrap 121 = .ok (.getfield 10, 3) := by decide +kernel
theorem dX8_scrap_124 : decode cX8_scrap 124 = .ok (.invokevirtual 123, 3) := by decide +kernel
theorem dX8_scrap_127 : decode cX8_scrap 127 = .ok (.aload_n 0, 1) := by decide +kernel
theorem dX8_scrap_128 : decode cX8_scrap 128 = .ok (.getfield 29, 3) := by decide +kernel
theorem dX8_scrap_131 : decode cX8_scrap 131 = .ok (.iload_n 1, 1) := by decide +kernel
theorem dX8_scrap_132 : decode cX8_scrap 132 = .ok (.invokevirtual 126, 3) := by decide +kernel
theorem dX8_scrap_135 : decode cX8_scrap 135 = .ok (.ireturn, 1) := by decide +kernel
theorem dX8_scrap_136 : decode cX8_scrap 136 = .ok (.aload_n 0, 1) := by decide +kernel
theorem dX8_scrap_137 : decode cX8_scrap 137 = .ok (.getfield 10, 3) := by decide +kernel
theorem dX8_scrap_140 : decode cX8_scrap 140 = .ok (.iload_n 1, 1) := by decide +kernel
theorem dX8_scrap_141 : decode cX8_scrap 141 = .ok (.invokevirtual 129, 3) := by decide +kernel
theorem dX8_scrap_144 : decode cX8_scrap 144 = .ok (.ireturn, 1) := by decide +kernel
theorem dX8_scrap_145 : decode cX8_scrap 145 = .ok (.aload_n 0, 1) := by decide +kernel
theorem dX8_scrap_146 : decode cX8_scrap 146 = .ok (.getfield 10, 3) := by decide +kernel
theorem dX8_scrap_149 : decode cX8_scrap 149 = .ok (.iload_n 1, 1) := by decide +kernel
theorem dX8_scrap_150 : decode cX8_scrap 150 = .ok (.invokevirtual 132, 3) := by decide +kernel
theorem dX8_scrap_153 : decode cX8_scrap 153 = .ok (.ireturn, 1) := by decide +kernel
theorem dX8_edge_0 : decode cX8_edge 0 = .ok (.aload_n 0, 1) := by decide +kernel
theorem dX8_edge_1 : decode cX8_edge 1 = .ok (.iload_n 1, 1) := by decide +kernel
theorem dX8_edge_2 : decode cX8_edge 2 = .ok (.invokevirtual 104, 3) := by decide +kernel
theorem dX8_edge_5 : decode cX8_edge 5 = .ok (.ifCond .eq 27, 3) := by decide +kernel
theorem dX8_edge_8 : decode cX8_edge 8 = .ok (.iload_n 2, 1) := by decide +kernel
theorem dX8_edge_9 : decode cX8_edge 9 = .ok (.invokestatic 135, 3) := by decide +kernel
theorem dX8_edge_12 : decode cX8_edge 12 = .ok (.ifCond .eq 20, 3) := by decide +kernel
theorem dX8_edge_15 : decode cX8_edge 15 = .ok (.iload_n 3, 1) := by decide +kernel
theorem dX8_edge_16 : decode cX8_edge 16 = .ok (.invokestatic 138, 3) := by decide +kernel
theorem dX8_edge_19 : decode cX8_edge 19 = .ok (.ifCond .eq 13, 3) := by decide +kernel
theorem dX8_edge_22 : decode cX8_edge 22 = .ok (.iload 4, 2) := by decide +kernel
theorem dX8_edge_24 : decode cX8_edge 24 = .ok (.iconst 0, 1) := by decide +kernel
theorem dX8_edge_25 : decode cX8_edge 25 = .ok (.iconst 1, 1) := by decide +kernel
theorem dX8_edge_26 : decode cX8_edge 26 = .ok (.invokestatic 47, 3) := by decide +kernel
theorem dX8_edge_29 : decode cX8_edge 29 = .ok (.ifCond .ne 7, 3) := by decide +kernel
theorem dX8_edge_32 : decode cX8_edge 32 = .ok (.sipush (-1001), 3) := by decide +kernel
theorem dX8_edge_35 : decode cX8_edge 35 = .ok (.ireturn, 1) := by decide +kernel
theorem dX8_edge_36 : decode cX8_edge 36 = .ok (.iload 4, 2) := by decide +kernel
theorem dX8_edge_38 : decode cX8_edge 38 = .ok (.ifCond .ne 19, 3) := by decide +kernel
theorem dX8_edge_41 : decode cX8_edge 41 = .ok (.aload_n 0, 1) := by decide +kernel
theorem dX8_edge_42 : decode cX8_edge 42 = .ok (.getfield 10, 3) := by decide +kernel
theorem dX8_edge_45 : decode cX8_edge 45 = .ok (.getfield 73, 3) := by decide +kernel
theorem dX8_edge_48 : decode cX8_edge 48 = .ok (.iload_n 1, 1) := by decide +kernel
theorem dX8_edge_49 : decode cX8_edge 49 = .ok (.iload_n 2, 1) := by decide +kernel
theorem dX8_edge_50 : decode cX8_edge 50 = .ok (.iload_n 3, 1) := by decide +kernel
theorem dX8_edge_51 : decode cX8_edge 51 = .ok (.invokevirtual 141, 3) := by decide +kernel
theorem dX8_edge_54 : decode cX8_edge 54 = .ok (.goto 16, 3) := by decide +kernel
theorem dX8_edge_57 : decode cX8_edge 57 = .ok (.aload_n 0, 1) := by decide +kernel
theorem dX8_edge_58 : decode cX8_edge 58 = .ok (.getfield 10, 3) := by decide +kernel
theorem dX8_edge_61 : decode cX8_edge 61 = .ok (.getfield 73, 3) := by decide +kernel
theorem dX8_edge_64 : decode cX8_edge 64 = .ok (.iload_n 1, 1) := by decide +kernel
theorem dX8_edge_65 : decode cX8_edge 65 = .ok (.iload_n 2, 1) := by decide +kernel
theorem dX8_edge_66 : decode cX8_edge 66 = .ok (.iload_n 3, 1) := by decide +kernel
theorem dX8_edge_67 : decode cX8_edge 67 = .ok (.invokevirtual 145, 3) := by decide +kernel
theorem dX8_edge_70 : decode cX8_edge 70 = .ok (.ireturn, 1) := by decide +kernel
theorem dX8_undo_0 : decode cX8_undo 0 = .ok (.aload_n 0, 1) := by decide +kernel
theorem dX8_undo_1 : decode cX8_undo 1 = .ok (.getfield 22, 3) := by decide +kernel
theorem dX8_undo_4 : decode cX8_undo 4 = .ok (.invokevirtual 148, 3) := by decide +kernel
theorem dX8_undo_7 : decode cX8_undo 7 = .ok (.ifCond .ne 7, 3) := by decide +kernel
theorem dX8_undo_10 : decode cX8_undo 10 = .ok (.sipush (-1002), 3) := by decide +kernel
theorem dX8_undo_13 : decode cX8_undo 13 = .ok (.ireturn, 1) := by decide +kernel
theorem dX8_undo_14 : decode cX8_undo 14 = .ok (.aload_n 0, 1) := by decide +kernel
theorem dX8_undo_15 : decode cX8_undo 15 = .ok (.getfield 22, 3) := by decide +kernel
theorem dX8_undo_18 : decode cX8_undo 18 = .ok (.aload_n 0, 1) := by decide +kernel
theorem dX8_undo_19 : decode cX8_undo 19 = .ok (.getfield 10, 3) := by decide +kernel
theorem dX8_undo_22 : decode cX8_undo 22 = .ok (.invokevirtual 149, 3) := by decide +kernel
theorem dX8_undo_25 : decode cX8_undo 25 = .ok (.aload_n 0, 1) := by decide +kernel
theorem dX8_undo_26 : decode cX8_undo 26 = .ok (.getfield 22, 3) := by decide +kernel
theorem dX8_undo_29 : decode cX8_undo 29 = .ok (.invokevirtual 148, 3) := by decide +kernel
theorem dX8_undo_32 : decode cX8_undo 32 = .ok (.ireturn, 1) := by decide +kernel
theorem dX8_count_0 : decode cX8_count 0 = .ok (.iload_n 1, 1) := by decide +kernel
theorem dX8_count_1 : decode cX8_count 1 = .ok (.tableswitch 192 0 11 #[63, 74, 82, 93, 104, 123, 131, 139, 148, 157, 176, 184], 63) := by decide +kernel
theorem dX8_count_64 : decode cX8_count 64 = .ok (.aload_n 0, 1) := by decide +kernel
theorem dX8_count_65 : decode cX8_count 65 = .ok (.getfield 10, 3) := by decide +kernel
theorem dX8_count_68 : decode cX8_count 68 = .ok (.getfield 73, 3) := by decide +kernel
theorem dX8_count_71 : decode cX8_count 71 = .ok (.invokevirtual 77, 3) := by decide +kernel
theorem dX8_count_74 : decode cX8_count 74 = .ok (.ireturn, 1) := by decide +kernel
theorem dX8_count_75 : decode cX8_count 75 = .ok (.aload_n 0, 1) := by decide +kernel
theorem dX8_count_76 : decode cX8_count 76 = .ok (.getfield 10, 3) := by decide +kernel
theorem dX8_count_79 : decode cX8_count 79 = .ok (.invokevirtual 51, 3) := by decide +kernel
theorem dX8_count_82 : decode cX8_count 82 = .ok (.ireturn, 1) := by decide +kernel
theorem dX8_count_83 : decode cX8_count 83 = .ok (.aload_n 0, 1) := by decide +kernel
theorem dX8_count_84 : decode cX8_count 84 = .ok (.getfield 10, 3) := by decide +kernel
theorem dX8_count_87 : decode cX8_count 87 = .ok (.getfield 59, 3) := by decide +kernel
theorem dX8_count_90 : decode cX8_count 90 = .ok (.invokevirtual 152, 3) := by decide +kernel
theorem dX8_count_93 : decode cX8_count 93 = .ok (.ireturn, 1) := by decide +kernel
theorem dX8_count_94 : decode cX8_count 94 = .ok (.aload_n 0, 1) := by decide +kernel
theorem dX8_count_95 : decode cX8_count 95 = .ok (.getfield 10, 3) := by decide +kernel
theorem dX8_count_98 : decode cX8_count 98 = .ok (.getfield 59, 3) := by decide +kernel
theorem dX8_count_101 : decode cX8_count 101 = .ok (.invokevirtual 155, 3) := by decide +kernel
theorem dX8_count_104 : decode cX8_count 104 = .ok (.ireturn, 1) := by decide +kernel
theorem dX8_count_105 : decode cX8_count 105 = .ok (.aload_n 0, 1) := by decide +kernel
theorem dX8_count_106 : decode cX8_count 106 = .ok (.getfield 29, 3) := by decide +kernel
theorem dX8_count_109 : decode cX8_count 109 = .ok (.aload_n 0, 1) := by decide +kernel
theorem dX8_count_110 : decode cX8_count 110 = .ok (.getfield 10, 3) := by decide +kernel
theorem dX8_count_113 : decode cX8_count 113 = .ok (.invokevirtual 123, 3) := by decide +kernel
theorem dX8_count_116 : decode cX8_count 116 = .ok (.aload_n 0, 1) := by decide +kernel
theorem dX8_count_117 : decode cX8_count 117 = .ok (.getfield 29, 3) := by decide +kernel
theorem dX8_count_120 : decode cX8_count 120 = .ok (.invokevirtual 158, 3) := by decide +kernel
theorem dX8_count_123 : decode cX8_count 123 = .ok (.ireturn, 1) := by decide +kernel
theorem dX8_count_124 : decode cX8_count 124 = .ok (.aload_n 0, 1) := by decide +kernel
theorem dX8_count_125 : decode cX8_count 125 = .ok (.getfield 10, 3) := by decide +kernel
theorem dX8_count_128 : decode cX8_count 128 = .ok (.invokevirtual 159, 3) := by decide +kernel
theorem dX8_count_131 : decode cX8_count 131 = .ok (.ireturn, 1) := by decide +kernel
theorem dX8_count_132 : decode cX8_count 132 = .ok (.aload_n 0, 1) := by decide +kernel
theorem dX8_count_133 : decode cX8_count 133 = .ok (.getfield 10, 3) := by decide +kernel
theorem dX8_count_136 : decode cX8_count 136 = .ok (.invokevirtual 162, 3) := by decide +kernel
theorem dX8_count_139 : decode cX8_count 139 = .ok (.ireturn, 1) := by decide +kernel
theorem dX8_count_140 : decode cX8_count 140 = .ok (.aload_n 0, 1) := by decide +kernel
theorem dX8_count_141 : decode cX8_count 141 = .ok (.getfield 10, 3) := by decide +kernel
theorem dX8_count_144 : decode cX8_count 144 = .ok (.iconst 0, 1) := by decide +kernel
theorem dX8_count_145 : decode cX8_count 145 = .ok (.invokevirtual 165, 3) := by decide +kernel
theorem dX8_count_148 : decode cX8_count 148 = .ok (.ireturn, 1) := by decide +kernel
theorem dX8_count_149 : decode cX8_count 149 = .ok (.aload_n 0, 1) := by decide +kernel
theorem dX8_count_150 : decode cX8_count 150 = .ok (.getfield 10, 3) := by decide +kernel
theorem dX8_count_153 : decode cX8_count 153 = .ok (.iconst 4, 1) := by decide +kernel
theorem dX8_count_154 : decode cX8_count 154 = .ok (.invokevirtual 165, 3) := by decide +kernel
theorem dX8_count_157 : decode cX8_count 157 = .ok (.ireturn, 1) := by decide +kernel
theorem dX8_count_158 : decode cX8_count 158 = .ok (.aload_n 0, 1) := by decide +kernel
theorem dX8_count_159 : decode cX8_count 159 = .ok (.getfield 10, 3) := by decide +kernel
theorem dX8_count_162 : decode cX8_count 162 = .ok (.getfield 59, 3) := by decide +kernel
theorem dX8_count_165 : decode cX8_count 165 = .ok (.invokevirtual 168, 3) := by decide +kernel
theorem dX8_count_168 : decode cX8_count 168 = .ok (.aload_n 0, 1) := by decide +kernel
theorem dX8_count_169 : decode cX8_count 169 = .ok (.getfield 10, 3) := by decide +kernel
theorem dX8_count_172 : decode cX8_count 172 = .ok (.invokevirtual 51, 3) := by decide +kernel
theorem dX8_count_175 : decode cX8_count 175 = .ok (.isub, 1) := by decide +kernel
theorem dX8_count_176 : decode cX8_count 176 = .ok (.ireturn, 1) := by decide +kernel
theorem dX8_count_177 : decode cX8_count 177 = .ok (.aload_n 0, 1) := by decide +kernel
theorem dX8_count_178 : decode cX8_count 178 = .ok (.getfield 22, 3) := by decide +kernel
theorem dX8_count_181 : decode cX8_count 181 = .ok (.invokevirtual 148, 3) := by decide +kernel
theorem dX8_count_184 : decode cX8_count 184 = .ok (.ireturn, 1) := by decide +kernel
theorem dX8_count_185 : decode cX8_count 185 = .ok (.aload_n 0, 1) := by decide +kernel
theorem dX8_count_186 : decode cX8_count 186 = .ok (.getfield 36, 3) := by decide +kernel
theorem dX8_count_189 : decode cX8_count 189 = .ok (.invokevirtual 171, 3) := by decide +kernel
theorem dX8_count_192 : decode cX8_count 192 = .ok (.ireturn, 1) := by decide +kernel
theorem dX8_count_193 : decode cX8_count 193 = .ok (.sipush (-1001), 3) := by decide +kernel
theorem dX8_count_196 : decode cX8_count 196 = .ok (.ireturn, 1) := by decide +kernel
theorem dX8_lay_0 : decode cX8_lay 0 = .ok (.aload_n 0, 1) := by decide +kernel
theorem dX8_lay_1 : decode cX8_lay 1 = .ok (.iload_n 1, 1) := by decide +kernel
theorem dX8_lay_2 : decode cX8_lay 2 = .ok (.invokevirtual 104, 3) := by decide +kernel
theorem dX8_lay_5 : decode cX8_lay 5 = .ok (.ifCond .eq 18, 3) := by decide +kernel
theorem dX8_lay_8 : decode cX8_lay 8 = .ok (.aload_n 0, 1) := by decide +kernel
theorem dX8_lay_9 : decode cX8_lay 9 = .ok (.iload_n 2, 1) := by decide +kernel
theorem dX8_lay_10 : decode cX8_lay 10 = .ok (.invokevirtual 174, 3) := by decide +kernel
theorem dX8_lay_13 : decode cX8_lay 13 = .ok (.ifCond .eq 10, 3) := by decide +kernel
theorem dX8_lay_16 : decode cX8_lay 16 = .ok (.iload_n 3, 1) := by decide +kernel
theorem dX8_lay_17 : decode cX8_lay 17 = .ok (.invokestatic 135, 3) := by decide +kernel
theorem dX8_lay_20 : decode cX8_lay 20 = .ok (.ifCond .ne 7, 3) := by decide +kernel
theorem dX8_lay_23 : decode cX8_lay 23 = .ok (.sipush (-1001), 3) := by decide +kernel
theorem dX8_lay_26 : decode cX8_lay 26 = .ok (.ireturn, 1) := by decide +kernel
theorem dX8_lay_27 : decode cX8_lay 27 = .ok (.aload_n 0, 1) := by decide +kernel
theorem dX8_lay_28 : decode cX8_lay 28 = .ok (.iload_n 1, 1) := by decide +kernel
theorem dX8_lay_29 : decode cX8_lay 29 = .ok (.iload_n 2, 1) := by decide +kernel
theorem dX8_lay_30 : decode cX8_lay 30 = .ok (.invokevirtual 177, 3) := by decide +kernel
theorem dX8_lay_33 : decode cX8_lay 33 = .ok (.ifCond .eq 16, 3) := by decide +kernel
theorem dX8_lay_36 : decode cX8_lay 36 = .ok (.aload_n 0, 1) := by decide +kernel
theorem dX8_lay_37 : decode cX8_lay 37 = .ok (.getfield 10, 3) := by decide +kernel
theorem dX8_lay_40 : decode cX8_lay 40 = .ok (.iload_n 1, 1) := by decide +kernel
theorem dX8_lay_41 : decode cX8_lay 41 = .ok (.iload_n 2, 1) := by decide +kernel
theorem dX8_lay_42 : decode cX8_lay 42 = .ok (.iload_n 3, 1) := by decide +kernel
theorem dX8_lay_43 : decode cX8_lay 43 = .ok (.invokevirtual 181, 3) := by decide +kernel
theorem dX8_lay_46 : decode cX8_lay 46 = .ok (.ifCond .ne 7, 3) := by decide +kernel
theorem dX8_lay_49 : decode cX8_lay 49 = .ok (.sipush (-1002), 3) := by decide +kernel
theorem dX8_lay_52 : decode cX8_lay 52 = .ok (.ireturn, 1) := by decide +kernel
theorem dX8_lay_53 : decode cX8_lay 53 = .ok (.aload_n 0, 1) := by decide +kernel
theorem dX8_lay_54 : decode cX8_lay 54 = .ok (.getfield 22, 3) := by decide +kernel
theorem dX8_lay_57 : decode cX8_lay 57 = .ok (.aload_n 0, 1) := by decide +kernel
theorem dX8_lay_58 : decode cX8_lay 58 = .ok (.getfield 10, 3) := by decide +kernel
theorem dX8_lay_61 : decode cX8_lay 61 = .ok (.invokevirtual 55, 3) := by decide +kernel
theorem dX8_lay_64 : decode cX8_lay 64 = .ok (.aload_n 0, 1) := by decide +kernel
theorem dX8_lay_65 : decode cX8_lay 65 = .ok (.getfield 10, 3) := by decide +kernel
theorem dX8_lay_68 : decode cX8_lay 68 = .ok (.getfield 59, 3) := by decide +kernel
theorem dX8_lay_71 : decode cX8_lay 71 = .ok (.iload_n 1, 1) := by decide +kernel
theorem dX8_lay_72 : decode cX8_lay 72 = .ok (.iload_n 2, 1) := by decide +kernel
theorem dX8_lay_73 : decode cX8_lay 73 = .ok (.iload_n 3, 1) := by decide +kernel
theorem dX8_lay_74 : decode cX8_lay 74 = .ok (.invokevirtual 184, 3) := by decide +kernel
theorem dX8_lay_77 : decode cX8_lay 77 = .ok (.aload_n 0, 1) := by decide +kernel
theorem dX8_lay_78 : decode cX8_lay 78 = .ok (.getfield 10, 3) := by decide +kernel
theorem dX8_lay_81 : decode cX8_lay 81 = .ok (.iload_n 1, 1) := by decide +kernel
theorem dX8_lay_82 : decode cX8_lay 82 = .ok (.iload_n 2, 1) := by decide +kernel
theorem dX8_lay_83 : decode cX8_lay 83 = .ok (.invokevirtual 187, 3) := by decide +kernel
theorem dX8_lay_86 : decode cX8_lay 86 = .ok (.ireturn, 1) := by decide +kernel
theorem dX8_force_0 : decode cX8_force 0 = .ok (.aload_n 0, 1) := by decide +kernel
theorem dX8_force_1 : decode cX8_force 1 = .ok (.iload_n 1, 1) := by decide +kernel
theorem dX8_force_2 : decode cX8_force 2 = .ok (.invokevirtual 104, 3) := by decide +kernel
theorem dX8_force_5 : decode cX8_force 5 = .ok (.ifCond .eq 18, 3) := by decide +kernel
theorem dX8_force_8 : decode cX8_force 8 = .ok (.aload_n 0, 1) := by decide +kernel
theorem dX8_force_9 : decode cX8_force 9 = .ok (.iload_n 2, 1) := by decide +kernel
theorem dX8_force_10 : decode cX8_force 10 = .ok (.invokevirtual 174, 3) := by decide +kernel
theorem dX8_force_13 : decode cX8_force 13 = .ok (.ifCond .eq 10, 3) := by decide +kernel
theorem dX8_force_16 : decode cX8_force 16 = .ok (.iload_n 3, 1) := by decide +kernel
theorem dX8_force_17 : decode cX8_force 17 = .ok (.invokestatic 135, 3) := by decide +kernel
theorem dX8_force_20 : decode cX8_force 20 = .ok (.ifCond .ne 7, 3) := by decide +kernel
theorem dX8_force_23 : decode cX8_force 23 = .ok (.sipush (-1001), 3) := by decide +kernel
theorem dX8_force_26 : decode cX8_force 26 = .ok (.ireturn, 1) := by decide +kernel
theorem dX8_force_27 : decode cX8_force 27 = .ok (.aload_n 0, 1) := by decide +kernel
theorem dX8_force_28 : decode cX8_force 28 = .ok (.iload_n 1, 1) := by decide +kernel
theorem dX8_force_29 : decode cX8_force 29 = .ok (.iload_n 2, 1) := by decide +kernel
theorem dX8_force_30 : decode cX8_force 30 = .ok (.invokevirtual 177, 3) := by decide +kernel
theorem dX8_force_33 : decode cX8_force 33 = .ok (.ifCond .ne 7, 3) := by decide +kernel
theorem dX8_force_36 : decode cX8_force 36 = .ok (.sipush (-1002), 3) := by decide +kernel
theorem dX8_force_39 : decode cX8_force 39 = .ok (.ireturn, 1) := by decide +kernel
theorem dX8_force_40 : decode cX8_force 40 = .ok (.aload_n 0, 1) := by decide +kernel
theorem dX8_force_41 : decode cX8_force 41 = .ok (.getfield 22, 3) := by decide +kernel
theorem dX8_force_44 : decode cX8_force 44 = .ok (.aload_n 0, 1) := by decide +kernel
theorem dX8_force_45 : decode cX8_force 45 = .ok (.getfield 10, 3) := by decide +kernel
theorem dX8_force_48 : decode cX8_force 48 = .ok (.invokevirtual 55, 3) := by decide +kernel
theorem dX8_force_51 : decode cX8_force 51 = .ok (.aload_n 0, 1) := by decide +kernel
theorem dX8_force_52 : decode cX8_force 52 = .ok (.getfield 10, 3) := by decide +kernel
theorem dX8_force_55 : decode cX8_force 55 = .ok (.getfield 59, 3) := by decide +kernel
theorem dX8_force_58 : decode cX8_force 58 = .ok (.iload_n 1, 1) := by decide +kernel
theorem dX8_force_59 : decode cX8_force 59 = .ok (.iload_n 2, 1) := by decide +kernel
theorem dX8_force_60 : decode cX8_force 60 = .ok (.iload_n 3, 1) := by decide +kernel
theorem dX8_force_61 : decode cX8_force 61 = .ok (.invokevirtual 184, 3) := by decide +kernel
theorem dX8_force_64 : decode cX8_force 64 = .ok (.aload_n 0, 1) := by decide +kernel
theorem dX8_force_65 : decode cX8_force 65 = .ok (.getfield 10, 3) := by decide +kernel
theorem dX8_force_68 : decode cX8_force 68 = .ok (.iload_n 1, 1) := by decide +kernel
theorem dX8_force_69 : decode cX8_force 69 = .ok (.invokevirtual 132, 3) := by decide +kernel
theorem dX8_force_72 : decode cX8_force 72 = .ok (.ireturn, 1) := by decide +kernel
theorem dX8_lift_0 : decode cX8_lift 0 = .ok (.aload_n 0, 1) := by decide +kernel
theorem dX8_lift_1 : decode cX8_lift 1 = .ok (.iload_n 1, 1) := by decide +kernel
theorem dX8_lift_2 : decode cX8_lift 2 = .ok (.invokevirtual 104, 3) := by decide +kernel
theorem dX8_lift_5 : decode cX8_lift 5 = .ok (.ifCond .ne 7, 3) := by decide +kernel
theorem dX8_lift_8 : decode cX8_lift 8 = .ok (.sipush (-1001), 3) := by decide +kernel
theorem dX8_lift_11 : decode cX8_lift 11 = .ok (.ireturn, 1) := by decide +kernel
theorem dX8_lift_12 : decode cX8_lift 12 = .ok (.aload_n 0, 1) := by decide +kernel
theorem dX8_lift_13 : decode cX8_lift 13 = .ok (.getfield 10, 3) := by decide +kernel
theorem dX8_lift_16 : decode cX8_lift 16 = .ok (.getfield 59, 3) := by decide +kernel
theorem dX8_lift_19 : decode cX8_lift 19 = .ok (.iload_n 1, 1) := by decide +kernel
theorem dX8_lift_20 : decode cX8_lift 20 = .ok (.invokevirtual 110, 3) := by decide +kernel
theorem dX8_lift_23 : decode cX8_lift 23 = .ok (.ifCond .ne 7, 3) := by decide +kernel
theorem dX8_lift_26 : decode cX8_lift 26 = .ok (.sipush (-1002), 3) := by decide +kernel
theorem dX8_lift_29 : decode cX8_lift 29 = .ok (.ireturn, 1) := by decide +kernel
theorem dX8_lift_30 : decode cX8_lift 30 = .ok (.aload_n 0, 1) := by decide +kernel
theorem dX8_lift_31 : decode cX8_lift 31 = .ok (.getfield 22, 3) := by decide +kernel
theorem dX8_lift_34 : decode cX8_lift 34 = .ok (.aload_n 0, 1) := by decide +kernel
theorem dX8_lift_35 : decode cX8_lift 35 = .ok (.getfield 10, 3) := by decide +kernel
theorem dX8_lift_38 : decode cX8_lift 38 = .ok (.invokevirtual 55, 3) := by decide +kernel
theorem dX8_lift_41 : decode cX8_lift 41 = .ok (.aload_n 0, 1) := by decide +kernel
theorem dX8_lift_42 : decode cX8_lift 42 = .ok (.getfield 10, 3) := by decide +kernel
theorem dX8_lift_45 : decode cX8_lift 45 = .ok (.getfield 59, 3) := by decide +kernel
theorem dX8_lift_48 : decode cX8_lift 48 = .ok (.iload_n 1, 1) := by decide +kernel
theorem dX8_lift_49 : decode cX8_lift 49 = .ok (.invokevirtual 120, 3) := by decide +kernel
theorem dX8_lift_52 : decode cX8_lift 52 = .ok (.istore_n 2, 1) := by decide +kernel
theorem dX8_lift_53 : decode cX8_lift 53 = .ok (.aload_n 0, 1) := by decide +kernel
theorem dX8_lift_54 : decode cX8_lift 54 = .ok (.getfield 10, 3) := by decide +kernel
theorem dX8_lift_57 : decode cX8_lift 57 = .ok (.getfield 59, 3) := by decide +kernel
theorem dX8_lift_60 : decode cX8_lift 60 = .ok (.iload_n 1, 1) := by decide +kernel
theorem dX8_lift_61 : decode cX8_lift 61 = .ok (.invokevirtual 191, 3) := by decide +kernel
theorem dX8_lift_64 : decode cX8_lift 64 = .ok (.iload_n 2, 1) := by decide +kernel
theorem dX8_lift_65 : decode cX8_lift 65 = .ok (.ireturn, 1) := by decide +kernel
theorem dX8_turn_0 : decode cX8_turn 0 = .ok (.aload_n 0, 1) := by decide +kernel
theorem dX8_turn_1 : decode cX8_turn 1 = .ok (.iload_n 1, 1) := by decide +kernel
theorem dX8_turn_2 : decode cX8_turn 2 = .ok (.invokevirtual 104, 3) := by decide +kernel
theorem dX8_turn_5 : decode cX8_turn 5 = .ok (.ifCond .eq 10, 3) := by decide +kernel
theorem dX8_turn_8 : decode cX8_turn 8 = .ok (.iload_n 2, 1) := by decide +kernel
theorem dX8_turn_9 : decode cX8_turn 9 = .ok (.invokestatic 135, 3) := by decide +kernel
theorem dX8_turn_12 : decode cX8_turn 12 = .ok (.ifCond .ne 7, 3) := by decide +kernel
theorem dX8_turn_15 : decode cX8_turn 15 = .ok (.sipush (-1001), 3) := by decide +kernel
theorem dX8_turn_18 : decode cX8_turn 18 = .ok (.ireturn, 1) := by decide +kernel
theorem dX8_turn_19 : decode cX8_turn 19 = .ok (.aload_n 0, 1) := by decide +kernel
theorem dX8_turn_20 : decode cX8_turn 20 = .ok (.getfield 10, 3) := by decide +kernel
theorem dX8_turn_23 : decode cX8_turn 23 = .ok (.getfield 59, 3) := by decide +kernel
theorem dX8_turn_26 : decode cX8_turn 26 = .ok (.iload_n 1, 1) := by decide +kernel
theorem dX8_turn_27 : decode cX8_turn 27 = .ok (.invokevirtual 110, 3) := by decide +kernel
theorem dX8_turn_30 : decode cX8_turn 30 = .ok (.ifCond .ne 7, 3) := by decide +kernel
theorem dX8_turn_33 : decode cX8_turn 33 = .ok (.sipush (-1002), 3) := by decide +kernel
theorem dX8_turn_36 : decode cX8_turn 36 = .ok (.ireturn, 1) := by decide +kernel
theorem dX8_turn_37 : decode cX8_turn 37 = .ok (.aload_n 0, 1) := by decide +kernel
theorem dX8_turn_38 : decode cX8_turn 38 = .ok (.getfield 22, 3) := by decide +kernel
theorem dX8_turn_41 : decode cX8_turn 41 = .ok (.aload_n 0, 1) := by decide +kernel
theorem dX8_turn_42 : decode cX8_turn 42 = .ok (.getfield 10, 3) := by decide +kernel
theorem dX8_turn_45 : decode cX8_turn 45 = .ok (.invokevirtual 55, 3) := by decide +kernel
theorem dX8_turn_48 : decode cX8_turn 48 = .ok (.aload_n 0, 1) := by decide +kernel
theorem dX8_turn_49 : decode cX8_turn 49 = .ok (.getfield 10, 3) := by decide +kernel
theorem dX8_turn_52 : decode cX8_turn 52 = .ok (.getfield 59, 3) := by decide +kernel
theorem dX8_turn_55 : decode cX8_turn 55 = .ok (.iload_n 1, 1) := by decide +kernel
theorem dX8_turn_56 : decode cX8_turn 56 = .ok (.aload_n 0, 1) := by decide +kernel
theorem dX8_turn_57 : decode cX8_turn 57 = .ok (.getfield 10, 3) := by decide +kernel
theorem dX8_turn_60 : decode cX8_turn 60 = .ok (.getfield 59, 3) := by decide +kernel
theorem dX8_turn_63 : decode cX8_turn 63 = .ok (.iload_n 1, 1) := by decide +kernel
theorem dX8_turn_64 : decode cX8_turn 64 = .ok (.invokevirtual 120, 3) := by decide +kernel
theorem dX8_turn_67 : decode cX8_turn 67 = .ok (.iload_n 2, 1) := by decide +kernel
theorem dX8_turn_68 : decode cX8_turn 68 = .ok (.invokevirtual 184, 3) := by decide +kernel
theorem dX8_turn_71 : decode cX8_turn 71 = .ok (.aload_n 0, 1) := by decide +kernel
theorem dX8_turn_72 : decode cX8_turn 72 = .ok (.getfield 10, 3) := by decide +kernel
theorem dX8_turn_75 : decode cX8_turn 75 = .ok (.iload_n 1, 1) := by decide +kernel
theorem dX8_turn_76 : decode cX8_turn 76 = .ok (.invokevirtual 132, 3) := by decide +kernel
theorem dX8_turn_79 : decode cX8_turn 79 = .ok (.ireturn, 1) := by decide +kernel
theorem dX8_at_0 : decode cX8_at 0 = .ok (.aload_n 0, 1) := by decide +kernel
theorem dX8_at_1 : decode cX8_at 1 = .ok (.iload_n 1, 1) := by decide +kernel
theorem dX8_at_2 : decode cX8_at 2 = .ok (.invokevirtual 174, 3) := by decide +kernel
theorem dX8_at_5 : decode cX8_at 5 = .ok (.ifCond .ne 7, 3) := by decide +kernel
theorem dX8_at_8 : decode cX8_at 8 = .ok (.sipush (-1001), 3) := by decide +kernel
theorem dX8_at_11 : decode cX8_at 11 = .ok (.ireturn, 1) := by decide +kernel
theorem dX8_at_12 : decode cX8_at 12 = .ok (.aload_n 0, 1) := by decide +kernel
theorem dX8_at_13 : decode cX8_at 13 = .ok (.getfield 10, 3) := by decide +kernel
theorem dX8_at_16 : decode cX8_at 16 = .ok (.getfield 59, 3) := by decide +kernel
theorem dX8_at_19 : decode cX8_at 19 = .ok (.iload_n 1, 1) := by decide +kernel
theorem dX8_at_20 : decode cX8_at 20 = .ok (.invokevirtual 194, 3) := by decide +kernel
theorem dX8_at_23 : decode cX8_at 23 = .ok (.istore_n 2, 1) := by decide +kernel
theorem dX8_at_24 : decode cX8_at 24 = .ok (.iload_n 2, 1) := by decide +kernel
theorem dX8_at_25 : decode cX8_at 25 = .ok (.iconst (-1), 1) := by decide +kernel
theorem dX8_at_26 : decode cX8_at 26 = .ok (.if_icmp .ne 9, 3) := by decide +kernel
theorem dX8_at_29 : decode cX8_at 29 = .ok (.sipush (-1004), 3) := by decide +kernel
theorem dX8_at_32 : decode cX8_at 32 = .ok (.goto 4, 3) := by decide +kernel
theorem dX8_at_35 : decode cX8_at 35 = .ok (.iload_n 2, 1) := by decide +kernel
theorem dX8_at_36 : decode cX8_at 36 = .ok (.ireturn, 1) := by decide +kernel
theorem dX8_reason_0 : decode cX8_reason 0 = .ok (.aload_n 0, 1) := by decide +kernel
theorem dX8_reason_1 : decode cX8_reason 1 = .ok (.iload_n 1, 1) := by decide +kernel
theorem dX8_reason_2 : decode cX8_reason 2 = .ok (.invokevirtual 174, 3) := by decide +kernel
theorem dX8_reason_5 : decode cX8_reason 5 = .ok (.ifCond .eq 10, 3) := by decide +kernel
theorem dX8_reason_8 : decode cX8_reason 8 = .ok (.iload_n 2, 1) := by decide +kernel
theorem dX8_reason_9 : decode cX8_reason 9 = .ok (.invokestatic 138, 3) := by decide +kernel
theorem dX8_reason_12 : decode cX8_reason 12 = .ok (.ifCond .ne 7, 3) := by decide +kernel
theorem dX8_reason_15 : decode cX8_reason 15 = .ok (.sipush (-1001), 3) := by decide +kernel
theorem dX8_reason_18 : decode cX8_reason 18 = .ok (.ireturn, 1) := by decide +kernel
theorem dX8_reason_19 : decode cX8_reason 19 = .ok (.aload_n 0, 1) := by decide +kernel
theorem dX8_reason_20 : decode cX8_reason 20 = .ok (.getfield 10, 3) := by decide +kernel
theorem dX8_reason_23 : decode cX8_reason 23 = .ok (.getfield 59, 3) := by decide +kernel
theorem dX8_reason_26 : decode cX8_reason 26 = .ok (.iload_n 1, 1) := by decide +kernel
theorem dX8_reason_27 : decode cX8_reason 27 = .ok (.invokevirtual 194, 3) := by decide +kernel
theorem dX8_reason_30 : decode cX8_reason 30 = .ok (.istore_n 3, 1) := by decide +kernel
theorem dX8_reason_31 : decode cX8_reason 31 = .ok (.iload_n 3, 1) := by decide +kernel
theorem dX8_reason_32 : decode cX8_reason 32 = .ok (.iconst (-1), 1) := by decide +kernel
theorem dX8_reason_33 : decode cX8_reason 33 = .ok (.if_icmp .ne 7, 3) := by decide +kernel
theorem dX8_reason_36 : decode cX8_reason 36 = .ok (.sipush (-1004), 3) := by decide +kernel
theorem dX8_reason_39 : decode cX8_reason 39 = .ok (.ireturn, 1) := by decide +kernel
theorem dX8_reason_40 : decode cX8_reason 40 = .ok (.aload_n 0, 1) := by decide +kernel
theorem dX8_reason_41 : decode cX8_reason 41 = .ok (.getfield 10, 3) := by decide +kernel
theorem dX8_reason_44 : decode cX8_reason 44 = .ok (.iload_n 3, 1) := by decide +kernel
theorem dX8_reason_45 : decode cX8_reason 45 = .ok (.iload_n 1, 1) := by decide +kernel
theorem dX8_reason_46 : decode cX8_reason 46 = .ok (.aload_n 0, 1) := by decide +kernel
theorem dX8_reason_47 : decode cX8_reason 47 = .ok (.getfield 10, 3) := by decide +kernel
theorem dX8_reason_50 : decode cX8_reason 50 = .ok (.getfield 59, 3) := by decide +kernel
theorem dX8_reason_53 : decode cX8_reason 53 = .ok (.iload_n 3, 1) := by decide +kernel
theorem dX8_reason_54 : decode cX8_reason 54 = .ok (.invokevirtual 117, 3) := by decide +kernel
theorem dX8_reason_57 : decode cX8_reason 57 = .ok (.iload_n 2, 1) := by decide +kernel
theorem dX8_reason_58 : decode cX8_reason 58 = .ok (.invokevirtual 197, 3) := by decide +kernel
theorem dX8_reason_61 : decode cX8_reason 61 = .ok (.istore 4, 2) := by decide +kernel
theorem dX8_reason_63 : decode cX8_reason 63 = .ok (.iload 4, 2) := by decide +kernel
theorem dX8_reason_65 : decode cX8_reason 65 = .ok (.iconst (-1), 1) := by decide +kernel
theorem dX8_reason_66 : decode cX8_reason 66 = .ok (.if_icmp .ne 9, 3) := by decide +kernel
theorem dX8_reason_69 : decode cX8_reason 69 = .ok (.sipush (-1004), 3) := by decide +kernel
theorem dX8_reason_72 : decode cX8_reason 72 = .ok (.goto 5, 3) := by decide +kernel
theorem dX8_reason_75 : decode cX8_reason 75 = .ok (.iload 4, 2) := by decide +kernel
theorem dX8_reason_77 : decode cX8_reason 77 = .ok (.ireturn, 1) := by decide +kernel
theorem dX8_ways_0 : decode cX8_ways 0 = .ok (.aload_n 0, 1) := by decide +kernel
theorem dX8_ways_1 : decode cX8_ways 1 = .ok (.iload_n 1, 1) := by decide +kernel
theorem dX8_ways_2 : decode cX8_ways 2 = .ok (.invokevirtual 104, 3) := by decide +kernel
theorem dX8_ways_5 : decode cX8_ways 5 = .ok (.ifCond .eq 11, 3) := by decide +kernel
theorem dX8_ways_8 : decode cX8_ways 8 = .ok (.aload_n 0, 1) := by decide +kernel
theorem dX8_ways_9 : decode cX8_ways 9 = .ok (.iload_n 2, 1) := by decide +kernel
theorem dX8_ways_10 : decode cX8_ways 10 = .ok (.invokevirtual 174, 3) := by decide +kernel
theorem dX8_ways_13 : decode cX8_ways 13 = .ok (.ifCond .ne 7, 3) := by decide +kernel
theorem dX8_ways_16 : decode cX8_ways 16 = .ok (.sipush (-1001), 3) := by decide +kernel
theorem dX8_ways_19 : decode cX8_ways 19 = .ok (.ireturn, 1) := by decide +kernel
theorem dX8_ways_20 : decode cX8_ways 20 = .ok (.aload_n 0, 1) := by decide +kernel
theorem dX8_ways_21 : decode cX8_ways 21 = .ok (.getfield 10, 3) := by decide +kernel
theorem dX8_ways_24 : decode cX8_ways 24 = .ok (.getfield 59, 3) := by decide +kernel
theorem dX8_ways_27 : decode cX8_ways 27 = .ok (.iload_n 2, 1) := by decide +kernel
theorem dX8_ways_28 : decode cX8_ways 28 = .ok (.invokevirtual 194, 3) := by decide +kernel
theorem dX8_ways_31 : decode cX8_ways 31 = .ok (.istore_n 3, 1) := by decide +kernel
theorem dX8_ways_32 : decode cX8_ways 32 = .ok (.iload_n 3, 1) := by decide +kernel
theorem dX8_ways_33 : decode cX8_ways 33 = .ok (.iconst (-1), 1) := by decide +kernel
theorem dX8_ways_34 : decode cX8_ways 34 = .ok (.if_icmp .eq 12, 3) := by decide +kernel
theorem dX8_ways_37 : decode cX8_ways 37 = .ok (.iload_n 3, 1) := by decide +kernel
theorem dX8_ways_38 : decode cX8_ways 38 = .ok (.iload_n 1, 1) := by decide +kernel
theorem dX8_ways_39 : decode cX8_ways 39 = .ok (.if_icmp .eq 7, 3) := by decide +kernel
theorem dX8_ways_42 : decode cX8_ways 42 = .ok (.sipush (-1002), 3) := by decide +kernel
theorem dX8_ways_45 : decode cX8_ways 45 = .ok (.ireturn, 1) := by decide +kernel
theorem dX8_ways_46 : decode cX8_ways 46 = .ok (.aload_n 0, 1) := by decide +kernel
theorem dX8_ways_47 : decode cX8_ways 47 = .ok (.getfield 10, 3) := by decide +kernel
theorem dX8_ways_50 : decode cX8_ways 50 = .ok (.iload_n 1, 1) := by decide +kernel
theorem dX8_ways_51 : decode cX8_ways 51 = .ok (.iload_n 2, 1) := by decide +kernel
theorem dX8_ways_52 : decode cX8_ways 52 = .ok (.invokevirtual 201, 3) := by decide +kernel
theorem dX8_ways_55 : decode cX8_ways 55 = .ok (.ireturn, 1) := by decide +kernel
theorem dX8_bestFor_0 : decode cX8_bestFor 0 = .ok (.aload_n 0, 1) := by decide +kernel
theorem dX8_bestFor_1 : decode cX8_bestFor 1 = .ok (.iload_n 1, 1) := by decide +kernel
theorem dX8_bestFor_2 : decode cX8_bestFor 2 = .ok (.invokevirtual 104, 3) := by decide +kernel
theorem dX8_bestFor_5 : decode cX8_bestFor 5 = .ok (.ifCond .ne 7, 3) := by decide +kernel
theorem dX8_bestFor_8 : decode cX8_bestFor 8 = .ok (.sipush (-1001), 3) := by decide +kernel
theorem dX8_bestFor_11 : decode cX8_bestFor 11 = .ok (.ireturn, 1) := by decide +kernel
theorem dX8_bestFor_12 : decode cX8_bestFor 12 = .ok (.aload_n 0, 1) := by decide +kernel
theorem dX8_bestFor_13 : decode cX8_bestFor 13 = .ok (.getfield 10, 3) := by decide +kernel
theorem dX8_bestFor_16 : decode cX8_bestFor 16 = .ok (.getfield 59, 3) := by decide +kernel
theorem dX8_bestFor_19 : decode cX8_bestFor 19 = .ok (.iload_n 1, 1) := by decide +kernel
theorem dX8_bestFor_20 : decode cX8_bestFor 20 = .ok (.invokevirtual 110, 3) := by decide +kernel
theorem dX8_bestFor_23 : decode cX8_bestFor 23 = .ok (.ifCond .eq 7, 3) := by decide +kernel
theorem dX8_bestFor_26 : decode cX8_bestFor 26 = .ok (.sipush (-1002), 3) := by decide +kernel
theorem dX8_bestFor_29 : decode cX8_bestFor 29 = .ok (.ireturn, 1) := by decide +kernel
theorem dX8_bestFor_30 : decode cX8_bestFor 30 = .ok (.aload_n 0, 1) := by decide +kernel
theorem dX8_bestFor_31 : decode cX8_bestFor 31 = .ok (.getfield 10, 3) := by decide +kernel
theorem dX8_bestFor_34 : decode cX8_bestFor 34 = .ok (.iload_n 1, 1) := by decide +kernel
theorem dX8_bestFor_35 : decode cX8_bestFor 35 = .ok (.invokevirtual 204, 3) := by decide +kernel
theorem dX8_bestFor_38 : decode cX8_bestFor 38 = .ok (.istore_n 2, 1) := by decide +kernel
theorem dX8_bestFor_39 : decode cX8_bestFor 39 = .ok (.iload_n 2, 1) := by decide +kernel
theorem dX8_bestFor_40 : decode cX8_bestFor 40 = .ok (.iconst (-1), 1) := by decide +kernel
theorem dX8_bestFor_41 : decode cX8_bestFor 41 = .ok (.if_icmp .ne 9, 3) := by decide +kernel
theorem dX8_bestFor_44 : decode cX8_bestFor 44 = .ok (.sipush (-1004), 3) := by decide +kernel
theorem dX8_bestFor_47 : decode cX8_bestFor 47 = .ok (.goto 4, 3) := by decide +kernel
theorem dX8_bestFor_50 : decode cX8_bestFor 50 = .ok (.iload_n 2, 1) := by decide +kernel
theorem dX8_bestFor_51 : decode cX8_bestFor 51 = .ok (.ireturn, 1) := by decide +kernel
theorem dX8_fill_0 : decode cX8_fill 0 = .ok (.aload_n 0, 1) := by decide +kernel
theorem dX8_fill_1 : decode cX8_fill 1 = .ok (.getfield 22, 3) := by decide +kernel
theorem dX8_fill_4 : decode cX8_fill 4 = .ok (.aload_n 0, 1) := by decide +kernel
theorem dX8_fill_5 : decode cX8_fill 5 = .ok (.getfield 10, 3) := by decide +kernel
theorem dX8_fill_8 : decode cX8_fill 8 = .ok (.invokevirtual 55, 3) := by decide +kernel
theorem dX8_fill_11 : decode cX8_fill 11 = .ok (.iconst 0, 1) := by decide +kernel
theorem dX8_fill_12 : decode cX8_fill 12 = .ok (.istore_n 1, 1) := by decide +kernel
theorem dX8_fill_13 : decode cX8_fill 13 = .ok (.iload_n 1, 1) := by decide +kernel
theorem dX8_fill_14 : decode cX8_fill 14 = .ok (.bipush 12, 2) := by decide +kernel
theorem dX8_fill_16 : decode cX8_fill 16 = .ok (.if_icmp .ge 19, 3) := by decide +kernel
theorem dX8_fill_19 : decode cX8_fill 19 = .ok (.aload_n 0, 1) := by decide +kernel
theorem dX8_fill_20 : decode cX8_fill 20 = .ok (.getfield 10, 3) := by decide +kernel
theorem dX8_fill_23 : decode cX8_fill 23 = .ok (.invokevirtual 207, 3) := by decide +kernel
theorem dX8_fill_26 : decode cX8_fill 26 = .ok (.ifCond .eq 9, 3) := by decide +kernel
theorem dX8_fill_29 : decode cX8_fill 29 = .ok (.iinc 1 1, 3) := by decide +kernel
theorem dX8_fill_32 : decode cX8_fill 32 = .ok (.goto (-19), 3) := by decide +kernel
theorem dX8_fill_35 : decode cX8_fill 35 = .ok (.iload_n 1, 1) := by decide +kernel
theorem dX8_fill_36 : decode cX8_fill 36 = .ok (.ireturn, 1) := by decide +kernel
theorem dX8_member_0 : decode cX8_member 0 = .ok (.aload_n 0, 1) := by decide +kernel
theorem dX8_member_1 : decode cX8_member 1 = .ok (.getfield 29, 3) := by decide +kernel
theorem dX8_member_4 : decode cX8_member 4 = .ok (.aload_n 0, 1) := by decide +kernel
theorem dX8_member_5 : decode cX8_member 5 = .ok (.getfield 10, 3) := by decide +kernel
theorem dX8_member_8 : decode cX8_member 8 = .ok (.invokevirtual 123, 3) := by decide +kernel
theorem dX8_member_11 : decode cX8_member 11 = .ok (.iload_n 1, 1) := by decide +kernel
theorem dX8_member_12 : decode cX8_member 12 = .ok (.iconst 0, 1) := by decide +kernel
theorem dX8_member_13 : decode cX8_member 13 = .ok (.aload_n 0, 1) := by decide +kernel
theorem dX8_member_14 : decode cX8_member 14 = .ok (.getfield 29, 3) := by decide +kernel
theorem dX8_member_17 : decode cX8_member 17 = .ok (.invokevirtual 158, 3) := by decide +kernel
theorem dX8_member_20 : decode cX8_member 20 = .ok (.iconst 1, 1) := by decide +kernel
theorem dX8_member_21 : decode cX8_member 21 = .ok (.isub, 1) := by decide +kernel
theorem dX8_member_22 : decode cX8_member 22 = .ok (.invokestatic 47, 3) := by decide +kernel
theorem dX8_member_25 : decode cX8_member 25 = .ok (.ifCond .eq 7, 3) := by decide +kernel
theorem dX8_member_28 : decode cX8_member 28 = .ok (.iload_n 2, 1) := by decide +kernel
theorem dX8_member_29 : decode cX8_member 29 = .ok (.ifCond .ge 7, 3) := by decide +kernel
theorem dX8_member_32 : decode cX8_member 32 = .ok (.sipush (-1001), 3) := by decide +kernel
theorem dX8_member_35 : decode cX8_member 35 = .ok (.ireturn, 1) := by decide +kernel
theorem dX8_member_36 : decode cX8_member 36 = .ok (.aload_n 0, 1) := by decide +kernel
theorem dX8_member_37 : decode cX8_member 37 = .ok (.getfield 29, 3) := by decide +kernel
theorem dX8_member_40 : decode cX8_member 40 = .ok (.iload_n 1, 1) := by decide +kernel
theorem dX8_member_41 : decode cX8_member 41 = .ok (.iload_n 2, 1) := by decide +kernel
theorem dX8_member_42 : decode cX8_member 42 = .ok (.invokevirtual 210, 3) := by decide +kernel
theorem dX8_member_45 : decode cX8_member 45 = .ok (.istore_n 3, 1) := by decide +kernel
theorem dX8_member_46 : decode cX8_member 46 = .ok (.iload_n 3, 1) := by decide +kernel
theorem dX8_member_47 : decode cX8_member 47 = .ok (.iconst (-1), 1) := by decide +kernel
theorem dX8_member_48 : decode cX8_member 48 = .ok (.if_icmp .ne 9, 3) := by decide +kernel
theorem dX8_member_51 : decode cX8_member 51 = .ok (.sipush (-1004), 3) := by decide +kernel
theorem dX8_member_54 : decode cX8_member 54 = .ok (.goto 4, 3) := by decide +kernel
theorem dX8_member_57 : decode cX8_member 57 = .ok (.iload_n 3, 1) := by decide +kernel
theorem dX8_member_58 : decode cX8_member 58 = .ok (.ireturn, 1) := by decide +kernel
theorem dX8_canFill_0 : decode cX8_canFill 0 = .ok (.aload_n 0, 1) := by decide +kernel
theorem dX8_canFill_1 : decode cX8_canFill 1 = .ok (.getfield 10, 3) := by decide +kernel
theorem dX8_canFill_4 : decode cX8_canFill 4 = .ok (.getfield 59, 3) := by decide +kernel
theorem dX8_canFill_7 : decode cX8_canFill 7 = .ok (.invokevirtual 168, 3) := by decide +kernel
theorem dX8_canFill_10 : decode cX8_canFill 10 = .ok (.istore_n 1, 1) := by decide +kernel
theorem dX8_canFill_11 : decode cX8_canFill 11 = .ok (.aload_n 0, 1) := by decide +kernel
theorem dX8_canFill_12 : decode cX8_canFill 12 = .ok (.getfield 10, 3) := by decide +kernel
theorem dX8_canFill_15 : decode cX8_canFill 15 = .ok (.getfield 73, 3) := by decide +kernel
theorem dX8_canFill_18 : decode cX8_canFill 18 = .ok (.invokevirtual 77, 3) := by decide +kernel
theorem dX8_canFill_21 : decode cX8_canFill 21 = .ok (.iload_n 1, 1) := by decide +kernel
theorem dX8_canFill_22 : decode cX8_canFill 22 = .ok (.if_icmp .ne 9, 3) := by decide +kernel
theorem dX8_canFill_25 : decode cX8_canFill 25 = .ok (.iload_n 1, 1) := by decide +kernel
theorem dX8_canFill_26 : decode cX8_canFill 26 = .ok (.bipush 6, 2) := by decide +kernel
theorem dX8_canFill_28 : decode cX8_canFill 28 = .ok (.if_icmp .le 7, 3) := by decide +kernel
theorem dX8_canFill_31 : decode cX8_canFill 31 = .ok (.sipush (-1002), 3) := by decide +kernel
theorem dX8_canFill_34 : decode cX8_canFill 34 = .ok (.ireturn, 1) := by decide +kernel
theorem dX8_canFill_35 : decode cX8_canFill 35 = .ok (.aload_n 0, 1) := by decide +kernel
theorem dX8_canFill_36 : decode cX8_canFill 36 = .ok (.getfield 16, 3) := by decide +kernel
theorem dX8_canFill_39 : decode cX8_canFill 39 = .ok (.aload_n 0, 1) := by decide +kernel
theorem dX8_canFill_40 : decode cX8_canFill 40 = .ok (.getfield 10, 3) := by decide +kernel
theorem dX8_canFill_43 : decode cX8_canFill 43 = .ok (.invokevirtual 213, 3) := by decide +kernel
theorem dX8_canFill_46 : decode cX8_canFill 46 = .ok (.aload_n 0, 1) := by decide +kernel
theorem dX8_canFill_47 : decode cX8_canFill 47 = .ok (.getfield 16, 3) := by decide +kernel
theorem dX8_canFill_50 : decode cX8_canFill 50 = .ok (.getfield 59, 3) := by decide +kernel
theorem dX8_canFill_53 : decode cX8_canFill 53 = .ok (.aload_n 0, 1) := by decide +kernel
theorem dX8_canFill_54 : decode cX8_canFill 54 = .ok (.getfield 10, 3) := by decide +kernel
theorem dX8_canFill_57 : decode cX8_canFill 57 = .ok (.getfield 59, 3) := by decide +kernel
theorem dX8_canFill_60 : decode cX8_canFill 60 = .ok (.invokevirtual 152, 3) := by decide +kernel
theorem dX8_canFill_63 : decode cX8_canFill 63 = .ok (.aload_n 0, 1) := by decide +kernel
theorem dX8_canFill_64 : decode cX8_canFill 64 = .ok (.getfield 10, 3) := by decide +kernel
theorem dX8_canFill_67 : decode cX8_canFill 67 = .ok (.getfield 59, 3) := by decide +kernel
theorem dX8_canFill_70 : decode cX8_canFill 70 = .ok (.invokevirtual 155, 3) := by decide +kernel
theorem dX8_canFill_73 : decode cX8_canFill 73 = .ok (.invokevirtual 63, 3) := by decide +kernel
theorem dX8_canFill_76 : decode cX8_canFill 76 = .ok (.aload_n 0, 1) := by decide +kernel
theorem dX8_canFill_77 : decode cX8_canFill 77 = .ok (.getfield 16, 3) := by decide +kernel
theorem dX8_canFill_80 : decode cX8_canFill 80 = .ok (.iconst 0, 1) := by decide +kernel
theorem dX8_canFill_81 : decode cX8_canFill 81 = .ok (.invokestatic 216, 3) := by decide +kernel
theorem dX8_canFill_84 : decode cX8_canFill 84 = .ok (.ifCond .eq 7, 3) := by decide +kernel
theorem dX8_canFill_87 : decode cX8_canFill 87 = .ok (.iconst 1, 1) := by decide +kernel
theorem dX8_canFill_88 : decode cX8_canFill 88 = .ok (.goto 4, 3) := by decide +kernel
theorem dX8_canFill_91 : decode cX8_canFill 91 = .ok (.iconst 0, 1) := by decide +kernel
theorem dX8_canFill_92 : decode cX8_canFill 92 = .ok (.ireturn, 1) := by decide +kernel
theorem dX8_type_0 : decode cX8_type 0 = .ok (.iload_n 1, 1) := by decide +kernel
theorem dX8_type_1 : decode cX8_type 1 = .ok (.bipush 32, 2) := by decide +kernel
theorem dX8_type_3 : decode cX8_type 3 = .ok (.bipush 126, 2) := by decide +kernel
theorem dX8_type_5 : decode cX8_type 5 = .ok (.invokestatic 47, 3) := by decide +kernel
theorem dX8_type_8 : decode cX8_type 8 = .ok (.ifCond .ne 7, 3) := by decide +kernel
theorem dX8_type_11 : decode cX8_type 11 = .ok (.sipush (-1001), 3) := by decide +kernel
theorem dX8_type_14 : decode cX8_type 14 = .ok (.ireturn, 1) := by decide +kernel
theorem dX8_type_15 : decode cX8_type 15 = .ok (.aload_n 0, 1) := by decide +kernel
theorem dX8_type_16 : decode cX8_type 16 = .ok (.getfield 36, 3) := by decide +kernel
theorem dX8_type_19 : decode cX8_type 19 = .ok (.invokevirtual 171, 3) := by decide +kernel
theorem dX8_type_22 : decode cX8_type 22 = .ok (.bipush 60, 2) := by decide +kernel
theorem dX8_type_24 : decode cX8_type 24 = .ok (.if_icmp .lt 7, 3) := by decide +kernel
theorem dX8_type_27 : decode cX8_type 27 = .ok (.sipush (-1003), 3) := by decide +kernel
theorem dX8_type_30 : decode cX8_type 30 = .ok (.ireturn, 1) := by decide +kernel
theorem dX8_type_31 : decode cX8_type 31 = .ok (.aload_n 0, 1) := by decide +kernel
theorem dX8_type_32 : decode cX8_type 32 = .ok (.getfield 36, 3) := by decide +kernel
theorem dX8_type_35 : decode cX8_type 35 = .ok (.iload_n 1, 1) := by decide +kernel
theorem dX8_type_36 : decode cX8_type 36 = .ok (.invokevirtual 220, 3) := by decide +kernel
theorem dX8_type_39 : decode cX8_type 39 = .ok (.aload_n 0, 1) := by decide +kernel
theorem dX8_type_40 : decode cX8_type 40 = .ok (.getfield 36, 3) := by decide +kernel
theorem dX8_type_43 : decode cX8_type 43 = .ok (.invokevirtual 171, 3) := by decide +kernel
theorem dX8_type_46 : decode cX8_type 46 = .ok (.ireturn, 1) := by decide +kernel
theorem dX8_clearText_0 : decode cX8_clearText 0 = .ok (.aload_n 0, 1) := by decide +kernel
theorem dX8_clearText_1 : decode cX8_clearText 1 = .ok (.getfield 36, 3) := by decide +kernel
theorem dX8_clearText_4 : decode cX8_clearText 4 = .ok (.invokevirtual 171, 3) := by decide +kernel
theorem dX8_clearText_7 : decode cX8_clearText 7 = .ok (.istore_n 1, 1) := by decide +kernel
theorem dX8_clearText_8 : decode cX8_clearText 8 = .ok (.aload_n 0, 1) := by decide +kernel
theorem dX8_clearText_9 : decode cX8_clearText 9 = .ok (.getfield 36, 3) := by decide +kernel
theorem dX8_clearText_12 : decode cX8_clearText 12 = .ok (.invokevirtual 222, 3) := by decide +kernel
theorem dX8_clearText_15 : decode cX8_clearText 15 = .ok (.iload_n 1, 1) := by decide +kernel
theorem dX8_clearText_16 : decode cX8_clearText 16 = .ok (.ireturn, 1) := by decide +kernel
theorem dX8_fault_0 : decode cX8_fault 0 = .ok (.aload_n 0, 1) := by decide +kernel
theorem dX8_fault_1 : decode cX8_fault 1 = .ok (.getfield 36, 3) := by decide +kernel
theorem dX8_fault_4 : decode cX8_fault 4 = .ok (.invokevirtual 94, 3) := by decide +kernel
theorem dX8_fault_7 : decode cX8_fault 7 = .ok (.aload_n 0, 1) := by decide +kernel
theorem dX8_fault_8 : decode cX8_fault 8 = .ok (.getfield 36, 3) := by decide +kernel
theorem dX8_fault_11 : decode cX8_fault 11 = .ok (.invokevirtual 97, 3) := by decide +kernel
theorem dX8_fault_14 : decode cX8_fault 14 = .ok (.ifCond .eq 9, 3) := by decide +kernel
theorem dX8_fault_17 : decode cX8_fault 17 = .ok (.sipush (-1004), 3) := by decide +kernel
theorem dX8_fault_20 : decode cX8_fault 20 = .ok (.goto 10, 3) := by decide +kernel
theorem dX8_fault_23 : decode cX8_fault 23 = .ok (.aload_n 0, 1) := by decide +kernel
theorem dX8_fault_24 : decode cX8_fault 24 = .ok (.getfield 36, 3) := by decide +kernel
theorem dX8_fault_27 : decode cX8_fault 27 = .ok (.invokevirtual 224, 3) := by decide +kernel
theorem dX8_fault_30 : decode cX8_fault 30 = .ok (.ireturn, 1) := by decide +kernel
theorem dX8_append_0 : decode cX8_append 0 = .ok (.aload_n 0, 1) := by decide +kernel
theorem dX8_append_1 : decode cX8_append 1 = .ok (.getfield 22, 3) := by decide +kernel
theorem dX8_append_4 : decode cX8_append 4 = .ok (.aload_n 0, 1) := by decide +kernel
theorem dX8_append_5 : decode cX8_append 5 = .ok (.getfield 10, 3) := by decide +kernel
theorem dX8_append_8 : decode cX8_append 8 = .ok (.invokevirtual 55, 3) := by decide +kernel
theorem dX8_append_11 : decode cX8_append 11 = .ok (.aload_n 0, 1) := by decide +kernel
theorem dX8_append_12 : decode cX8_append 12 = .ok (.getfield 10, 3) := by decide +kernel
theorem dX8_append_15 : decode cX8_append 15 = .ok (.getfield 73, 3) := by decide +kernel
theorem dX8_append_18 : decode cX8_append 18 = .ok (.aload_n 1, 1) := by decide +kernel
theorem dX8_append_19 : decode cX8_append 19 = .ok (.invokevirtual 227, 3) := by decide +kernel
theorem dX8_append_22 : decode cX8_append 22 = .ok (.aload_n 0, 1) := by decide +kernel
theorem dX8_append_23 : decode cX8_append 23 = .ok (.getfield 10, 3) := by decide +kernel
theorem dX8_append_26 : decode cX8_append 26 = .ok (.getfield 73, 3) := by decide +kernel
theorem dX8_append_29 : decode cX8_append 29 = .ok (.invokevirtual 77, 3) := by decide +kernel
theorem dX8_append_32 : decode cX8_append 32 = .ok (.iconst 1, 1) := by decide +kernel
theorem dX8_append_33 : decode cX8_append 33 = .ok (.isub, 1) := by decide +kernel
theorem dX8_append_34 : decode cX8_append 34 = .ok (.ireturn, 1) := by decide +kernel
theorem dX8_isFree_0 : decode cX8_isFree 0 = .ok (.aload_n 0, 1) := by decide +kernel
theorem dX8_isFree_1 : decode cX8_isFree 1 = .ok (.getfield 10, 3) := by decide +kernel
theorem dX8_isFree_4 : decode cX8_isFree 4 = .ok (.getfield 59, 3) := by decide +kernel
theorem dX8_isFree_7 : decode cX8_isFree 7 = .ok (.iload_n 1, 1) := by decide +kernel
theorem dX8_isFree_8 : decode cX8_isFree 8 = .ok (.invokevirtual 110, 3) := by decide +kernel
theorem dX8_isFree_11 : decode cX8_isFree 11 = .ok (.ifCond .ne 22, 3) := by decide +kernel
theorem dX8_isFree_14 : decode cX8_isFree 14 = .ok (.aload_n 0, 1) := by decide +kernel
theorem dX8_isFree_15 : decode cX8_isFree 15 = .ok (.getfield 10, 3) := by decide +kernel
theorem dX8_isFree_18 : decode cX8_isFree 18 = .ok (.getfield 59, 3) := by decide +kernel
theorem dX8_isFree_21 : decode cX8_isFree 21 = .ok (.iload_n 2, 1) := by decide +kernel
theorem dX8_isFree_22 : decode cX8_isFree 22 = .ok (.invokevirtual 194, 3) := by decide +kernel
theorem dX8_isFree_25 : decode cX8_isFree 25 = .ok (.iconst (-1), 1) := by decide +kernel
theorem dX8_isFree_26 : decode cX8_isFree 26 = .ok (.if_icmp .ne 7, 3) := by decide +kernel
theorem dX8_isFree_29 : decode cX8_isFree 29 = .ok (.iconst 1, 1) := by decide +kernel
theorem dX8_isFree_30 : decode cX8_isFree 30 = .ok (.goto 4, 3) := by decide +kernel
theorem dX8_isFree_33 : decode cX8_isFree 33 = .ok (.iconst 0, 1) := by decide +kernel
theorem dX8_isFree_34 : decode cX8_isFree 34 = .ok (.ireturn, 1) := by decide +kernel
theorem dX8_isScrap_0 : decode cX8_isScrap 0 = .ok (.iload_n 1, 1) := by decide +kernel
theorem dX8_isScrap_1 : decode cX8_isScrap 1 = .ok (.iconst 0, 1) := by decide +kernel
theorem dX8_isScrap_2 : decode cX8_isScrap 2 = .ok (.aload_n 0, 1) := by decide +kernel
theorem dX8_isScrap_3 : decode cX8_isScrap 3 = .ok (.getfield 10, 3) := by decide +kernel
theorem dX8_isScrap_6 : decode cX8_isScrap 6 = .ok (.getfield 73, 3) := by decide +kernel
theorem dX8_isScrap_9 : decode cX8_isScrap 9 = .ok (.invokevirtual 77, 3) := by decide +kernel
theorem dX8_isScrap_12 : decode cX8_isScrap 12 = .ok (.iconst 1, 1) := by decide +kernel
theorem dX8_isScrap_13 : decode cX8_isScrap 13 = .ok (.isub, 1) := by decide +kernel
theorem dX8_isScrap_14 : decode cX8_isScrap 14 = .ok (.invokestatic 47, 3) := by decide +kernel
theorem dX8_isScrap_17 : decode cX8_isScrap 17 = .ok (.ireturn, 1) := by decide +kernel
theorem dX8_isPlace_0 : decode cX8_isPlace 0 = .ok (.iload_n 1, 1) := by decide +kernel
theorem dX8_isPlace_1 : decode cX8_isPlace 1 = .ok (.iconst 0, 1) := by decide +kernel
theorem dX8_isPlace_2 : decode cX8_isPlace 2 = .ok (.aload_n 0, 1) := by decide +kernel
theorem dX8_isPlace_3 : decode cX8_isPlace 3 = .ok (.getfield 10, 3) := by decide +kernel
theorem dX8_isPlace_6 : decode cX8_isPlace 6 = .ok (.getfield 59, 3) := by decide +kernel
theorem dX8_isPlace_9 : decode cX8_isPlace 9 = .ok (.invokevirtual 168, 3) := by decide +kernel
theorem dX8_isPlace_12 : decode cX8_isPlace 12 = .ok (.iconst 1, 1) := by decide +kernel
theorem dX8_isPlace_13 : decode cX8_isPlace 13 = .ok (.isub, 1) := by decide +kernel
theorem dX8_isPlace_14 : decode cX8_isPlace 14 = .ok (.invokestatic 47, 3) := by decide +kernel
theorem dX8_isPlace_17 : decode cX8_isPlace 17 = .ok (.ireturn, 1) := by decide +kernel
theorem dX8_isOrientation_0 : decode cX8_isOrientation 0 = .ok (.iload_n 0, 1) := by decide +kernel
theorem dX8_isOrientation_1 : decode cX8_isOrientation 1 = .ok (.iconst 0, 1) := by decide +kernel
theorem dX8_isOrientation_2 : decode cX8_isOrientation 2 = .ok (.bipush 7, 2) := by decide +kernel
theorem dX8_isOrientation_4 : decode cX8_isOrientation 4 = .ok (.invokestatic 47, 3) := by decide +kernel
theorem dX8_isOrientation_7 : decode cX8_isOrientation 7 = .ok (.ireturn, 1) := by decide +kernel
theorem dX8_isEdge_0 : decode cX8_isEdge 0 = .ok (.iload_n 0, 1) := by decide +kernel
theorem dX8_isEdge_1 : decode cX8_isEdge 1 = .ok (.iconst 0, 1) := by decide +kernel
theorem dX8_isEdge_2 : decode cX8_isEdge 2 = .ok (.iconst 3, 1) := by decide +kernel
theorem dX8_isEdge_3 : decode cX8_isEdge 3 = .ok (.invokestatic 47, 3) := by decide +kernel
theorem dX8_isEdge_6 : decode cX8_isEdge 6 = .ok (.ireturn, 1) := by decide +kernel
theorem dX8_isProfile_0 : decode cX8_isProfile 0 = .ok (.iload_n 0, 1) := by decide +kernel
theorem dX8_isProfile_1 : decode cX8_isProfile 1 = .ok (.iconst (-1), 1) := by decide +kernel
theorem dX8_isProfile_2 : decode cX8_isProfile 2 = .ok (.sipush 999, 3) := by decide +kernel
theorem dX8_isProfile_5 : decode cX8_isProfile 5 = .ok (.invokestatic 47, 3) := by decide +kernel
theorem dX8_isProfile_8 : decode cX8_isProfile 8 = .ok (.ireturn, 1) := by decide +kernel
theorem dX8_isWithin_0 : decode cX8_isWithin 0 = .ok (.iload_n 1, 1) := by decide +kernel
theorem dX8_isWithin_1 : decode cX8_isWithin 1 = .ok (.iload_n 0, 1) := by decide +kernel
theorem dX8_isWithin_2 : decode cX8_isWithin 2 = .ok (.if_icmp .gt 12, 3) := by decide +kernel
theorem dX8_isWithin_5 : decode cX8_isWithin 5 = .ok (.iload_n 0, 1) := by decide +kernel
theorem dX8_isWithin_6 : decode cX8_isWithin 6 = .ok (.iload_n 2, 1) := by decide +kernel
theorem dX8_isWithin_7 : decode cX8_isWithin 7 = .ok (.if_icmp .gt 7, 3) := by decide +kernel
theorem dX8_isWithin_10 : decode cX8_isWithin 10 = .ok (.iconst 1, 1) := by decide +kernel
theorem dX8_isWithin_11 : decode cX8_isWithin 11 = .ok (.goto 4, 3) := by decide +kernel
theorem dX8_isWithin_14 : decode cX8_isWithin 14 = .ok (.iconst 0, 1) := by decide +kernel
theorem dX8_isWithin_15 : decode cX8_isWithin 15 = .ok (.ireturn, 1) := by decide +kernel
theorem dX8_fillsFrom_0 : decode cX8_fillsFrom 0 = .ok (.iload_n 1, 1) := by decide +kernel
theorem dX8_fillsFrom_1 : decode cX8_fillsFrom 1 = .ok (.bipush 6, 2) := by decide +kernel
theorem dX8_fillsFrom_3 : decode cX8_fillsFrom 3 = .ok (.if_icmp .ge 14, 3) := by decide +kernel
theorem dX8_fillsFrom_6 : decode cX8_fillsFrom 6 = .ok (.iload_n 1, 1) := by decide +kernel
theorem dX8_fillsFrom_7 : decode cX8_fillsFrom 7 = .ok (.aload_n 0, 1) := by decide +kernel
theorem dX8_fillsFrom_8 : decode cX8_fillsFrom 8 = .ok (.getfield 59, 3) := by decide +kernel
theorem dX8_fillsFrom_11 : decode cX8_fillsFrom 11 = .ok (.invokevirtual 168, 3) := by decide +kernel
theorem dX8_fillsFrom_14 : decode cX8_fillsFrom 14 = .ok (.if_icmp .lt 5, 3) := by decide +kernel
theorem dX8_fillsFrom_17 : decode cX8_fillsFrom 17 = .ok (.iconst 1, 1) := by decide +kernel
theorem dX8_fillsFrom_18 : decode cX8_fillsFrom 18 = .ok (.ireturn, 1) := by decide +kernel
theorem dX8_fillsFrom_19 : decode cX8_fillsFrom 19 = .ok (.iconst 0, 1) := by decide +kernel
theorem dX8_fillsFrom_20 : decode cX8_fillsFrom 20 = .ok (.istore_n 2, 1) := by decide +kernel
theorem dX8_fillsFrom_21 : decode cX8_fillsFrom 21 = .ok (.iload_n 2, 1) := by decide +kernel
theorem dX8_fillsFrom_22 : decode cX8_fillsFrom 22 = .ok (.aload_n 0, 1) := by decide +kernel
theorem dX8_fillsFrom_23 : decode cX8_fillsFrom 23 = .ok (.getfield 73, 3) := by decide +kernel
theorem dX8_fillsFrom_26 : decode cX8_fillsFrom 26 = .ok (.invokevirtual 77, 3) := by decide +kernel
theorem dX8_fillsFrom_29 : decode cX8_fillsFrom 29 = .ok (.if_icmp .ge 74, 3) := by decide +kernel
theorem dX8_fillsFrom_32 : decode cX8_fillsFrom 32 = .ok (.iconst 0, 1) := by decide +kernel
theorem dX8_fillsFrom_33 : decode cX8_fillsFrom 33 = .ok (.istore_n 3, 1) := by decide +kernel
theorem dX8_fillsFrom_34 : decode cX8_fillsFrom 34 = .ok (.iload_n 3, 1) := by decide +kernel
theorem dX8_fillsFrom_35 : decode cX8_fillsFrom 35 = .ok (.bipush 8, 2) := by decide +kernel
theorem dX8_fillsFrom_37 : decode cX8_fillsFrom 37 = .ok (.if_icmp .ge 60, 3) := by decide +kernel
theorem dX8_fillsFrom_40 : decode cX8_fillsFrom 40 = .ok (.aload_n 0, 1) := by decide +kernel
theorem dX8_fillsFrom_41 : decode cX8_fillsFrom 41 = .ok (.getfield 59, 3) := by decide +kernel
theorem dX8_fillsFrom_44 : decode cX8_fillsFrom 44 = .ok (.iload_n 2, 1) := by decide +kernel
theorem dX8_fillsFrom_45 : decode cX8_fillsFrom 45 = .ok (.invokevirtual 110, 3) := by decide +kernel
theorem dX8_fillsFrom_48 : decode cX8_fillsFrom 48 = .ok (.ifCond .ne 43, 3) := by decide +kernel
theorem dX8_fillsFrom_51 : decode cX8_fillsFrom 51 = .ok (.aload_n 0, 1) := by decide +kernel
theorem dX8_fillsFrom_52 : decode cX8_fillsFrom 52 = .ok (.iload_n 2, 1) := by decide +kernel
theorem dX8_fillsFrom_53 : decode cX8_fillsFrom 53 = .ok (.iload_n 1, 1) := by decide +kernel
theorem dX8_fillsFrom_54 : decode cX8_fillsFrom 54 = .ok (.iload_n 3, 1) := by decide +kernel
theorem dX8_fillsFrom_55 : decode cX8_fillsFrom 55 = .ok (.invokevirtual 181, 3) := by decide +kernel
theorem dX8_fillsFrom_58 : decode cX8_fillsFrom 58 = .ok (.ifCond .eq 33, 3) := by decide +kernel
theorem dX8_fillsFrom_61 : decode cX8_fillsFrom 61 = .ok (.aload_n 0, 1) := by decide +kernel
theorem dX8_fillsFrom_62 : decode cX8_fillsFrom 62 = .ok (.getfield 59, 3) := by decide +kernel
theorem dX8_fillsFrom_65 : decode cX8_fillsFrom 65 = .ok (.iload_n 2, 1) := by decide +kernel
theorem dX8_fillsFrom_66 : decode cX8_fillsFrom 66 = .ok (.iload_n 1, 1) := by decide +kernel
theorem dX8_fillsFrom_67 : decode cX8_fillsFrom 67 = .ok (.iload_n 3, 1) := by decide +kernel
theorem dX8_fillsFrom_68 : decode cX8_fillsFrom 68 = .ok (.invokevirtual 184, 3) := by decide +kernel
theorem dX8_fillsFrom_71 : decode cX8_fillsFrom 71 = .ok (.aload_n 0, 1) := by decide +kernel
theorem dX8_fillsFrom_72 : decode cX8_fillsFrom 72 = .ok (.iload_n 1, 1) := by decide +kernel
theorem dX8_fillsFrom_73 : decode cX8_fillsFrom 73 = .ok (.iconst 1, 1) := by decide +kernel
theorem dX8_fillsFrom_74 : decode cX8_fillsFrom 74 = .ok (.iadd, 1) := by decide +kernel
theorem dX8_fillsFrom_75 : decode cX8_fillsFrom 75 = .ok (.invokestatic 216, 3) := by decide +kernel
theorem dX8_fillsFrom_78 : decode cX8_fillsFrom 78 = .ok (.ifCond .eq 5, 3) := by decide +kernel
theorem dX8_fillsFrom_81 : decode cX8_fillsFrom 81 = .ok (.iconst 1, 1) := by decide +kernel
theorem dX8_fillsFrom_82 : decode cX8_fillsFrom 82 = .ok (.ireturn, 1) := by decide +kernel
theorem dX8_fillsFrom_83 : decode cX8_fillsFrom 83 = .ok (.aload_n 0, 1) := by decide +kernel
theorem dX8_fillsFrom_84 : decode cX8_fillsFrom 84 = .ok (.getfield 59, 3) := by decide +kernel
theorem dX8_fillsFrom_87 : decode cX8_fillsFrom 87 = .ok (.iload_n 2, 1) := by decide +kernel
theorem dX8_fillsFrom_88 : decode cX8_fillsFrom 88 = .ok (.invokevirtual 191, 3) := by decide +kernel
theorem dX8_fillsFrom_91 : decode cX8_fillsFrom 91 = .ok (.iinc 3 1, 3) := by decide +kernel
theorem dX8_fillsFrom_94 : decode cX8_fillsFrom 94 = .ok (.goto (-60), 3) := by decide +kernel
theorem dX8_fillsFrom_97 : decode cX8_fillsFrom 97 = .ok (.iinc 2 1, 3) := by decide +kernel
theorem dX8_fillsFrom_100 : decode cX8_fillsFrom 100 = .ok (.goto (-79), 3) := by decide +kernel
theorem dX8_fillsFrom_103 : decode cX8_fillsFrom 103 = .ok (.iconst 0, 1) := by decide +kernel
theorem dX8_fillsFrom_104 : decode cX8_fillsFrom 104 = .ok (.ireturn, 1) := by decide +kernel
theorem dX9_init_0 : decode cX9_init 0 = .ok (.aload_n 0, 1) := by decide +kernel
theorem dX9_init_1 : decode cX9_init 1 = .ok (.invokespecial 1, 3) := by decide +kernel
theorem dX9_init_4 : decode cX9_init 4 = .ok (.aload_n 0, 1) := by decide +kernel
theorem dX9_init_5 : decode cX9_init 5 = .ok (.sipush 135, 3) := by decide +kernel
theorem dX9_init_8 : decode cX9_init 8 = .ok (.newarray .int, 2) := by decide +kernel
theorem dX9_init_10 : decode cX9_init 10 = .ok (.putfield 7, 3) := by decide +kernel
theorem dX9_init_13 : decode cX9_init 13 = .ok (.aload_n 0, 1) := by decide +kernel
theorem dX9_init_14 : decode cX9_init 14 = .ok (.sipush 675, 3) := by decide +kernel
theorem dX9_init_17 : decode cX9_init 17 = .ok (.newarray .int, 2) := by decide +kernel
theorem dX9_init_19 : decode cX9_init 19 = .ok (.putfield 13, 3) := by decide +kernel
theorem dX9_init_22 : decode cX9_init 22 = .ok (.aload_n 0, 1) := by decide +kernel
theorem dX9_init_23 : decode cX9_init 23 = .ok (.bipush 60, 2) := by decide +kernel
theorem dX9_init_25 : decode cX9_init 25 = .ok (.newarray .char, 2) := by decide +kernel
theorem dX9_init_27 : decode cX9_init 27 = .ok (.putfield 16, 3) := by decide +kernel
theorem dX9_init_30 : decode cX9_init 30 = .ok (.aload_n 0, 1) := by decide +kernel
theorem dX9_init_31 : decode cX9_init 31 = .ok (.iconst 4, 1) := by decide +kernel
theorem dX9_init_32 : decode cX9_init 32 = .ok (.newarray .int, 2) := by decide +kernel
theorem dX9_init_34 : decode cX9_init 34 = .ok (.putfield 20, 3) := by decide +kernel
theorem dX9_init_37 : decode cX9_init 37 = .ok (.aload_n 0, 1) := by decide +kernel
theorem dX9_init_38 : decode cX9_init 38 = .ok (.iconst 4, 1) := by decide +kernel
theorem dX9_init_39 : decode cX9_init 39 = .ok (.newarray .int, 2) := by decide +kernel
theorem dX9_init_41 : decode cX9_init 41 = .ok (.putfield 23, 3) := by decide +kernel
theorem dX9_init_44 : decode cX9_init 44 = .ok (.aload_n 0, 1) := by decide +kernel
theorem dX9_init_45 : decode cX9_init 45 = .ok (.bipush 9, 2) := by decide +kernel
theorem dX9_init_47 : decode cX9_init 47 = .ok (.newarray .int, 2) := by decide +kernel
theorem dX9_init_49 : decode cX9_init 49 = .ok (.putfield 26, 3) := by decide +kernel
theorem dX9_init_52 : decode cX9_init 52 = .ok (.aload_n 0, 1) := by decide +kernel
theorem dX9_init_53 : decode cX9_init 53 = .ok (.bipush 12, 2) := by decide +kernel
theorem dX9_init_55 : decode cX9_init 55 = .ok (.newarray .int, 2) := by decide +kernel
theorem dX9_init_57 : decode cX9_init 57 = .ok (.putfield 29, 3) := by decide +kernel
theorem dX9_init_60 : decode cX9_init 60 = .ok (.aload_n 0, 1) := by decide +kernel
theorem dX9_init_61 : decode cX9_init 61 = .ok (.bipush 6, 2) := by decide +kernel
theorem dX9_init_63 : decode cX9_init 63 = .ok (.newarray .int, 2) := by decide +kernel
theorem dX9_init_65 : decode cX9_init 65 = .ok (.putfield 32, 3) := by decide +kernel
theorem dX9_init_68 : decode cX9_init 68 = .ok (.aload_n 0, 1) := by decide +kernel
theorem dX9_init_69 : decode cX9_init 69 = .ok (.sipush 135, 3) := by decide +kernel
theorem dX9_init_72 : decode cX9_init 72 = .ok (.newarray .int, 2) := by decide +kernel
theorem dX9_init_74 : decode cX9_init 74 = .ok (.putfield 35, 3) := by decide +kernel
theorem dX9_init_77 : decode cX9_init 77 = .ok (.aload_n 0, 1) := by decide +kernel
theorem dX9_init_78 : decode cX9_init 78 = .ok (.getfield 7, 3) := by decide +kernel
theorem dX9_init_81 : decode cX9_init 81 = .ok (.iconst 0, 1) := by decide +kernel
theorem dX9_init_82 : decode cX9_init 82 = .ok (.iconst 4, 1) := by decide +kernel
theorem dX9_init_83 : decode cX9_init 83 = .ok (.iastore, 1) := by decide +kernel
theorem dX9_init_84 : decode cX9_init 84 = .ok (.aload_n 0, 1) := by decide +kernel
theorem dX9_init_85 : decode cX9_init 85 = .ok (.getfield 7, 3) := by decide +kernel
theorem dX9_init_88 : decode cX9_init 88 = .ok (.iconst 1, 1) := by decide +kernel
theorem dX9_init_89 : decode cX9_init 89 = .ok (.iconst 4, 1) := by decide +kernel
theorem dX9_init_90 : decode cX9_init 90 = .ok (.iastore, 1) := by decide +kernel
theorem dX9_init_91 : decode cX9_init 91 = .ok (.return_, 1) := by decide +kernel
theorem dX9_in_0 : decode cX9_in 0 = .ok (.iload_n 0, 1) := by decide +kernel
theorem dX9_in_1 : decode cX9_in 1 = .ok (.iload_n 1, 1) := by decide +kernel
theorem dX9_in_2 : decode cX9_in 2 = .ok (.if_icmp .lt 12, 3) := by decide +kernel
theorem dX9_in_5 : decode cX9_in 5 = .ok (.iload_n 0, 1) := by decide +kernel
theorem dX9_in_6 : decode cX9_in 6 = .ok (.iload_n 2, 1) := by decide +kernel
theorem dX9_in_7 : decode cX9_in 7 = .ok (.if_icmp .gt 7, 3) := by decide +kernel
theorem dX9_in_10 : decode cX9_in 10 = .ok (.iconst 1, 1) := by decide +kernel
theorem dX9_in_11 : decode cX9_in 11 = .ok (.goto 4, 3) := by decide +kernel
theorem dX9_in_14 : decode cX9_in 14 = .ok (.iconst 0, 1) := by decide +kernel
theorem dX9_in_15 : decode cX9_in 15 = .ok (.ireturn, 1) := by decide +kernel
theorem dX9_isScrap_0 : decode cX9_isScrap 0 = .ok (.iload_n 1, 1) := by decide +kernel
theorem dX9_isScrap_1 : decode cX9_isScrap 1 = .ok (.iconst 0, 1) := by decide +kernel
theorem dX9_isScrap_2 : decode cX9_isScrap 2 = .ok (.aload_n 0, 1) := by decide +kernel
theorem dX9_isScrap_3 : decode cX9_isScrap 3 = .ok (.getfield 7, 3) := by decide +kernel
theorem dX9_isScrap_6 : decode cX9_isScrap 6 = .ok (.iconst 2, 1) := by decide +kernel
theorem dX9_isScrap_7 : decode cX9_isScrap 7 = .ok (.iaload, 1) := by decide +kernel
theorem dX9_isScrap_8 : decode cX9_isScrap 8 = .ok (.iconst 1, 1) := by decide +kernel
theorem dX9_isScrap_9 : decode cX9_isScrap 9 = .ok (.isub, 1) := by decide +kernel
theorem dX9_isScrap_10 : decode cX9_isScrap 10 = .ok (.invokestatic 38, 3) := by decide +kernel
theorem dX9_isScrap_13 : decode cX9_isScrap 13 = .ok (.ireturn, 1) := by decide +kernel
theorem dX9_places_0 : decode cX9_places 0 = .ok (.aload_n 0, 1) := by decide +kernel
theorem dX9_places_1 : decode cX9_places 1 = .ok (.getfield 7, 3) := by decide +kernel
theorem dX9_places_4 : decode cX9_places 4 = .ok (.iconst 0, 1) := by decide +kernel
theorem dX9_places_5 : decode cX9_places 5 = .ok (.iaload, 1) := by decide +kernel
theorem dX9_places_6 : decode cX9_places 6 = .ok (.aload_n 0, 1) := by decide +kernel
theorem dX9_places_7 : decode cX9_places 7 = .ok (.getfield 7, 3) := by decide +kernel
theorem dX9_places_10 : decode cX9_places 10 = .ok (.iconst 1, 1) := by decide +kernel
theorem dX9_places_11 : decode cX9_places 11 = .ok (.iaload, 1) := by decide +kernel
theorem dX9_places_12 : decode cX9_places 12 = .ok (.imul, 1) := by decide +kernel
theorem dX9_places_13 : decode cX9_places 13 = .ok (.ireturn, 1) := by decide +kernel
theorem dX9_isPlace_0 : decode cX9_isPlace 0 = .ok (.iload_n 1, 1) := by decide +kernel
theorem dX9_isPlace_1 : decode cX9_isPlace 1 = .ok (.iconst 0, 1) := by decide +kernel
theorem dX9_isPlace_2 : decode cX9_isPlace 2 = .ok (.aload_n 0, 1) := by decide +kernel
theorem dX9_isPlace_3 : decode cX9_isPlace 3 = .ok (.invokevirtual 42, 3) := by decide +kernel
theorem dX9_isPlace_6 : decode cX9_isPlace 6 = .ok (.iconst 1, 1) := by decide +kernel
theorem dX9_isPlace_7 : decode cX9_isPlace 7 = .ok (.isub, 1) := by decide +kernel
theorem dX9_isPlace_8 : decode cX9_isPlace 8 = .ok (.invokestatic 38, 3) := by decide +kernel
theorem dX9_isPlace_11 : decode cX9_isPlace 11 = .ok (.ireturn, 1) := by decide +kernel
theorem dX9_records_0 : decode cX9_records 0 = .ok (.aload_n 0, 1) := by decide +kernel
theorem dX9_records_1 : decode cX9_records 1 = .ok (.getfield 46, 3) := by decide +kernel
theorem dX9_records_4 : decode cX9_records 4 = .ok (.iconst 5, 1) := by decide +kernel
theorem dX9_records_5 : decode cX9_records 5 = .ok (.if_icmp .ne 44, 3) := by decide +kernel
theorem dX9_records_8 : decode cX9_records 8 = .ok (.iconst 0, 1) := by decide +kernel
theorem dX9_records_9 : decode cX9_records 9 = .ok (.istore_n 1, 1) := by decide +kernel
theorem dX9_records_10 : decode cX9_records 10 = .ok (.iload_n 1, 1) := by decide +kernel
theorem dX9_records_11 : decode cX9_records 11 = .ok (.sipush 540, 3) := by decide +kernel
theorem dX9_records_14 : decode cX9_records 14 = .ok (.if_icmp .ge 25, 3) := by decide +kernel
theorem dX9_records_17 : decode cX9_records 17 = .ok (.aload_n 0, 1) := by decide +kernel
theorem dX9_records_18 : decode cX9_records 18 = .ok (.getfield 13, 3) := by decide +kernel
theorem dX9_records_21 : decode cX9_records 21 = .ok (.iload_n 1, 1) := by decide +kernel
theorem dX9_records_22 : decode cX9_records 22 = .ok (.aload_n 0, 1) := by decide +kernel
theorem dX9_records_23 : decode cX9_records 23 = .ok (.getfield 13, 3) := by decide +kernel
theorem dX9_records_26 : decode cX9_records 26 = .ok (.iload_n 1, 1) := by decide +kernel
theorem dX9_records_27 : decode cX9_records 27 = .ok (.sipush 135, 3) := by decide +kernel
theorem dX9_records_30 : decode cX9_records 30 = .ok (.iadd, 1) := by decide +kernel
theorem dX9_records_31 : decode cX9_records 31 = .ok (.iaload, 1) := by decide +kernel
theorem dX9_records_32 : decode cX9_records 32 = .ok (.iastore, 1) := by decide +kernel
theorem dX9_records_33 : decode cX9_records 33 = .ok (.iinc 1 1, 3) := by decide +kernel
theorem dX9_records_36 : decode cX9_records 36 = .ok (.goto (-26), 3) := by decide +kernel
theorem dX9_records_39 : decode cX9_records 39 = .ok (.aload_n 0, 1) := by decide +kernel
theorem dX9_records_40 : decode cX9_records 40 = .ok (.dup, 1) := by decide +kernel
theorem dX9_records_41 : decode cX9_records 41 = .ok (.getfield 46, 3) := by decide +kernel
theorem dX9_records_44 : decode cX9_records 44 = .ok (.iconst 1, 1) := by decide +kernel
theorem dX9_records_45 : decode cX9_records 45 = .ok (.isub, 1) := by decide +kernel
theorem dX9_records_46 : decode cX9_records 46 = .ok (.putfield 46, 3) := by decide +kernel
theorem dX9_records_49 : decode cX9_records 49 = .ok (.iconst 0, 1) := by decide +kernel
theorem dX9_records_50 : decode cX9_records 50 = .ok (.istore_n 1, 1) := by decide +kernel
theorem dX9_records_51 : decode cX9_records 51 = .ok (.iload_n 1, 1) := by decide +kernel
theorem dX9_records_52 : decode cX9_records 52 = .ok (.sipush 135, 3) := by decide +kernel
theorem dX9_records_55 : decode cX9_records 55 = .ok (.if_icmp .ge 30, 3) := by decide +kernel
theorem dX9_records_58 : decode cX9_records 58 = .ok (.aload_n 0, 1) := by decide +kernel
theorem dX9_records_59 : decode cX9_records 59 = .ok (.getfield 13, 3) := by decide +kernel
theorem dX9_records_62 : decode cX9_records 62 = .ok (.sipush 135, 3) := by decide +kernel
theorem dX9_records_65 : decode cX9_records 65 = .ok (.aload_n 0, 1) := by decide +kernel
theorem dX9_records_66 : decode cX9_records 66 = .ok (.getfield 46, 3) := by decide +kernel
theorem dX9_records_69 : decode cX9_records 69 = .ok (.imul, 1) := by decide +kernel
theorem dX9_records_70 : decode cX9_records 70 = .ok (.iload_n 1, 1) := by decide +kernel
theorem dX9_records_71 : decode cX9_records 71 = .ok (.iadd, 1) := by decide +kernel
theorem dX9_records_72 : decode cX9_records 72 = .ok (.aload_n 0, 1) := by decide +kernel
theorem dX9_records_73 : decode cX9_records 73 = .ok (.getfield 7, 3) := by decide +kernel
theorem dX9_records_76 : decode cX9_records 76 = .ok (.iload_n 1, 1) := by decide +kernel
theorem dX9_records_77 : decode cX9_records 77 = .ok (.iaload, 1) := by decide +kernel
theorem dX9_records_78 : decode cX9_records 78 = .ok (.iastore, 1) := by decide +kernel
theorem dX9_records_79 : decode cX9_records 79 = .ok (.iinc 1 1, 3) := by decide +kernel
theorem dX9_records_82 : decode cX9_records 82 = .ok (.goto (-31), 3) := by decide +kernel
theorem dX9_records_85 : decode cX9_records 85 = .ok (.aload_n 0, 1) := by decide +kernel
theorem dX9_records_86 : decode cX9_records 86 = .ok (.dup, 1) := by decide +kernel
theorem dX9_records_87 : decode cX9_records 87 = .ok (.getfield 46, 3) := by decide +kernel
theorem dX9_records_90 : decode cX9_records 90 = .ok (.iconst 1, 1) := by decide +kernel
theorem dX9_records_91 : decode cX9_records 91 = .ok (.iadd, 1) := by decide +kernel
theorem dX9_records_92 : decode cX9_records 92 = .ok (.putfield 46, 3) := by decide +kernel
theorem dX9_records_95 : decode cX9_records 95 = .ok (.return_, 1) := by decide +kernel
theorem dX9_reversed_0 : decode cX9_reversed 0 = .ok (.iload_n 0, 1) := by decide +kernel
theorem dX9_reversed_1 : decode cX9_reversed 1 = .ok (.ifCond .ge 7, 3) := by decide +kernel
theorem dX9_reversed_4 : decode cX9_reversed 4 = .ok (.iload_n 0, 1) := by decide +kernel
theorem dX9_reversed_5 : decode cX9_reversed 5 = .ok (.goto 26, 3) := by decide +kernel
theorem dX9_reversed_8 : decode cX9_reversed 8 = .ok (.iload_n 0, 1) := by decide +kernel
theorem dX9_reversed_9 : decode cX9_reversed 9 = .ok (.bipush 10, 2) := by decide +kernel
theorem dX9_reversed_11 : decode cX9_reversed 11 = .ok (.irem, 1) := by decide +kernel
theorem dX9_reversed_12 : decode cX9_reversed 12 = .ok (.bipush 100, 2) := by decide +kernel
theorem dX9_reversed_14 : decode cX9_reversed 14 = .ok (.imul, 1) := by decide +kernel
theorem dX9_reversed_15 : decode cX9_reversed 15 = .ok (.iload_n 0, 1) := by decide +kernel
theorem dX9_reversed_16 : decode cX9_reversed 16 = .ok (.bipush 10, 2) := by decide +kernel
theorem dX9_reversed_18 : decode cX9_reversed 18 = .ok (.idiv, 1) := by decide +kernel
theorem dX9_reversed_19 : decode cX9_reversed 19 = .ok (.bipush 10, 2) := by decide +kernel
theorem dX9_reversed_21 : decode cX9_reversed 21 = .ok (.irem, 1) := by decide +kernel
theorem dX9_reversed_22 : decode cX9_reversed 22 = .ok (.bipush 10, 2) := by decide +kernel
theorem dX9_reversed_24 : decode cX9_reversed 24 = .ok (.imul, 1) := by decide +kernel
theorem dX9_reversed_25 : decode cX9_reversed 25 = .ok (.iadd, 1) := by decide +kernel
theorem dX9_reversed_26 : decode cX9_reversed 26 = .ok (.iload_n 0, 1) := by decide +kernel
theorem dX9_reversed_27 : decode cX9_reversed 27 = .ok (.bipush 100, 2) := by decide +kernel
theorem dX9_reversed_29 : decode cX9_reversed 29 = .ok (.idiv, 1) := by decide +kernel
theorem dX9_reversed_30 : decode cX9_reversed 30 = .ok (.iadd, 1) := by decide +kernel
theorem dX9_reversed_31 : decode cX9_reversed 31 = .ok (.ireturn, 1) := by decide +kernel
theorem dX9_turns_0 : decode cX9_turns 0 = .ok (.iload_n 2, 1) := by decide +kernel
theorem dX9_turns_1 : decode cX9_turns 1 = .ok (.iconst 3, 1) := by decide +kernel
theorem dX9_turns_2 : decode cX9_turns 2 = .ok (.if_icmp .le 7, 3) := by decide +kernel
theorem dX9_turns_5 : decode cX9_turns 5 = .ok (.iconst 1, 1) := by decide +kernel
theorem dX9_turns_6 : decode cX9_turns 6 = .ok (.goto 4, 3) := by decide +kernel
theorem dX9_turns_9 : decode cX9_turns 9 = .ok (.iconst 0, 1) := by decide +kernel
theorem dX9_turns_10 : decode cX9_turns 10 = .ok (.istore_n 3, 1) := by decide +kernel
theorem dX9_turns_11 : decode cX9_turns 11 = .ok (.iconst 0, 1) := by decide +kernel
theorem dX9_turns_12 : decode cX9_turns 12 = .ok (.istore 4, 2) := by decide +kernel
theorem dX9_turns_14 : decode cX9_turns 14 = .ok (.iload 4, 2) := by decide +kernel
theorem dX9_turns_16 : decode cX9_turns 16 = .ok (.iconst 4, 1) := by decide +kernel
theorem dX9_turns_17 : decode cX9_turns 17 = .ok (.if_icmp .ge 116, 3) := by decide +kernel
theorem dX9_turns_20 : decode cX9_turns 20 = .ok (.iload_n 3, 1) := by decide +kernel
theorem dX9_turns_21 : decode cX9_turns 21 = .ok (.ifCond .eq 18, 3) := by decide +kernel
theorem dX9_turns_24 : decode cX9_turns 24 = .ok (.iload 4, 2) := by decide +kernel
theorem dX9_turns_26 : decode cX9_turns 26 = .ok (.iconst 2, 1) := by decide +kernel
theorem dX9_turns_27 : decode cX9_turns 27 = .ok (.irem, 1) := by decide +kernel
theorem dX9_turns_28 : decode cX9_turns 28 = .ok (.iconst 1, 1) := by decide +kernel
theorem dX9_turns_29 : decode cX9_turns 29 = .ok (.if_icmp .ne 10, 3) := by decide +kernel
theorem dX9_turns_32 : decode cX9_turns 32 = .ok (.iconst 4, 1) := by decide +kernel
theorem dX9_turns_33 : decode cX9_turns 33 = .ok (.iload 4, 2) := by decide +kernel
theorem dX9_turns_35 : decode cX9_turns 35 = .ok (.isub, 1) := by decide +kernel
theorem dX9_turns_36 : decode cX9_turns 36 = .ok (.goto 5, 3) := by decide +kernel
theorem dX9_turns_39 : decode cX9_turns 39 = .ok (.iload 4, 2) := by decide +kernel
theorem dX9_turns_41 : decode cX9_turns 41 = .ok (.istore 5, 2) := by decide +kernel
theorem dX9_turns_43 : decode cX9_turns 43 = .ok (.aload_n 0, 1) := by decide +kernel
theorem dX9_turns_44 : decode cX9_turns 44 = .ok (.getfield 7, 3) := by decide +kernel
theorem dX9_turns_47 : decode cX9_turns 47 = .ok (.iconst 3, 1) := by decide +kernel
theorem dX9_turns_48 : decode cX9_turns 48 = .ok (.iconst 4, 1) := by decide +kernel
theorem dX9_turns_49 : decode cX9_turns 49 = .ok (.iload_n 1, 1) := by decide +kernel
theorem dX9_turns_50 : decode cX9_turns 50 = .ok (.imul, 1) := by decide +kernel
theorem dX9_turns_51 : decode cX9_turns 51 = .ok (.iadd, 1) := by decide +kernel
theorem dX9_turns_52 : decode cX9_turns 52 = .ok (.iload 5, 2) := by decide +kernel
theorem dX9_turns_54 : decode cX9_turns 54 = .ok (.iadd, 1) := by decide +kernel
theorem dX9_turns_55 : decode cX9_turns 55 = .ok (.iaload, 1) := by decide +kernel
theorem dX9_turns_56 : decode cX9_turns 56 = .ok (.istore 6, 2) := by decide +kernel
theorem dX9_turns_58 : decode cX9_turns 58 = .ok (.aload_n 0, 1) := by decide +kernel
theorem dX9_turns_59 : decode cX9_turns 59 = .ok (.getfield 20, 3) := by decide +kernel
theorem dX9_turns_62 : decode cX9_turns 62 = .ok (.iload 4, 2) := by decide +kernel
theorem dX9_turns_64 : decode cX9_turns 64 = .ok (.iload_n 3, 1) := by decide +kernel
theorem dX9_turns_65 : decode cX9_turns 65 = .ok (.ifCond .eq 18, 3) := by decide +kernel
theorem dX9_turns_68 : decode cX9_turns 68 = .ok (.iload 4, 2) := by decide +kernel
theorem dX9_turns_70 : decode cX9_turns 70 = .ok (.iconst 2, 1) := by decide +kernel
