theorem dX0_init_0 : decode cX0_init 0 = .ok (.aload_n 0, 1) := by decide +kernel
theorem dX0_init_1 : decode cX0_init 1 = .ok (.invokespecial 3, 3) := by decide +kernel
theorem dX0_init_4 : decode cX0_init 4 = .ok (.aload_n 0, 1) := by decide +kernel
theorem dX0_init_5 : decode cX0_init 5 = .ok (.new 9, 3) := by decide +kernel
theorem dX0_init_8 : decode cX0_init 8 = .ok (.dup, 1) := by decide +kernel
theorem dX0_init_9 : decode cX0_init 9 = .ok (.invokespecial 11, 3) := by decide +kernel
theorem dX0_init_12 : decode cX0_init 12 = .ok (.putfield 12, 3) := by decide +kernel
theorem dX0_init_15 : decode cX0_init 15 = .ok (.aload_n 0, 1) := by decide +kernel
theorem dX0_init_16 : decode cX0_init 16 = .ok (.new 18, 3) := by decide +kernel
theorem dX0_init_19 : decode cX0_init 19 = .ok (.dup, 1) := by decide +kernel
theorem dX0_init_20 : decode cX0_init 20 = .ok (.invokespecial 20, 3) := by decide +kernel
theorem dX0_init_23 : decode cX0_init 23 = .ok (.putfield 21, 3) := by decide +kernel
theorem dX0_init_26 : decode cX0_init 26 = .ok (.return_, 1) := by decide +kernel
theorem dX0_copy_0 : decode cX0_copy 0 = .ok (.aload_n 0, 1) := by decide +kernel
theorem dX0_copy_1 : decode cX0_copy 1 = .ok (.getfield 12, 3) := by decide +kernel
theorem dX0_copy_4 : decode cX0_copy 4 = .ok (.aload_n 1, 1) := by decide +kernel
theorem dX0_copy_5 : decode cX0_copy 5 = .ok (.getfield 12, 3) := by decide +kernel
theorem dX0_copy_8 : decode cX0_copy 8 = .ok (.invokevirtual 25, 3) := by decide +kernel
theorem dX0_copy_11 : decode cX0_copy 11 = .ok (.aload_n 0, 1) := by decide +kernel
theorem dX0_copy_12 : decode cX0_copy 12 = .ok (.getfield 21, 3) := by decide +kernel
theorem dX0_copy_15 : decode cX0_copy 15 = .ok (.aload_n 1, 1) := by decide +kernel
theorem dX0_copy_16 : decode cX0_copy 16 = .ok (.getfield 21, 3) := by decide +kernel
theorem dX0_copy_19 : decode cX0_copy 19 = .ok (.invokevirtual 29, 3) := by decide +kernel
theorem dX0_copy_22 : decode cX0_copy 22 = .ok (.return_, 1) := by decide +kernel
theorem dX0_remove_0 : decode cX0_remove 0 = .ok (.aload_n 0, 1) := by decide +kernel
theorem dX0_remove_1 : decode cX0_remove 1 = .ok (.getfield 12, 3) := by decide +kernel
theorem dX0_remove_4 : decode cX0_remove 4 = .ok (.iload_n 1, 1) := by decide +kernel
theorem dX0_remove_5 : decode cX0_remove 5 = .ok (.invokevirtual 32, 3) := by decide +kernel
theorem dX0_remove_8 : decode cX0_remove 8 = .ok (.aload_n 0, 1) := by decide +kernel
theorem dX0_remove_9 : decode cX0_remove 9 = .ok (.getfield 21, 3) := by decide +kernel
theorem dX0_remove_12 : decode cX0_remove 12 = .ok (.iload_n 1, 1) := by decide +kernel
theorem dX0_remove_13 : decode cX0_remove 13 = .ok (.invokevirtual 36, 3) := by decide +kernel
theorem dX0_remove_16 : decode cX0_remove 16 = .ok (.return_, 1) := by decide +kernel
theorem dX0_countLying_0 : decode cX0_countLying 0 = .ok (.iconst 0, 1) := by decide +kernel
theorem dX0_countLying_1 : decode cX0_countLying 1 = .ok (.istore_n 1, 1) := by decide +kernel
theorem dX0_countLying_2 : decode cX0_countLying 2 = .ok (.iconst 0, 1) := by decide +kernel
theorem dX0_countLying_3 : decode cX0_countLying 3 = .ok (.istore_n 2, 1) := by decide +kernel
theorem dX0_countLying_4 : decode cX0_countLying 4 = .ok (.iload_n 2, 1) := by decide +kernel
theorem dX0_countLying_5 : decode cX0_countLying 5 = .ok (.aload_n 0, 1) := by decide +kernel
theorem dX0_countLying_6 : decode cX0_countLying 6 = .ok (.getfield 12, 3) := by decide +kernel
theorem dX0_countLying_9 : decode cX0_countLying 9 = .ok (.invokevirtual 37, 3) := by decide +kernel
theorem dX0_countLying_12 : decode cX0_countLying 12 = .ok (.if_icmp .ge 23, 3) := by decide +kernel
theorem dX0_countLying_15 : decode cX0_countLying 15 = .ok (.aload_n 0, 1) := by decide +kernel
theorem dX0_countLying_16 : decode cX0_countLying 16 = .ok (.getfield 21, 3) := by decide +kernel
theorem dX0_countLying_19 : decode cX0_countLying 19 = .ok (.iload_n 2, 1) := by decide +kernel
theorem dX0_countLying_20 : decode cX0_countLying 20 = .ok (.invokevirtual 41, 3) := by decide +kernel
theorem dX0_countLying_23 : decode cX0_countLying 23 = .ok (.ifCond .eq 6, 3) := by decide +kernel
theorem dX0_countLying_26 : decode cX0_countLying 26 = .ok (.iinc 1 1, 3) := by decide +kernel
theorem dX0_countLying_29 : decode cX0_countLying 29 = .ok (.iinc 2 1, 3) := by decide +kernel
theorem dX0_countLying_32 : decode cX0_countLying 32 = .ok (.goto (-28), 3) := by decide +kernel
theorem dX0_countLying_35 : decode cX0_countLying 35 = .ok (.iload_n 1, 1) := by decide +kernel
theorem dX0_countLying_36 : decode cX0_countLying 36 = .ok (.ireturn, 1) := by decide +kernel
theorem dX0_neighbour_0 : decode cX0_neighbour 0 = .ok (.aload_n 0, 1) := by decide +kernel
theorem dX0_neighbour_1 : decode cX0_neighbour 1 = .ok (.getfield 21, 3) := by decide +kernel
theorem dX0_neighbour_4 : decode cX0_neighbour 4 = .ok (.aload_n 0, 1) := by decide +kernel
theorem dX0_neighbour_5 : decode cX0_neighbour 5 = .ok (.getfield 21, 3) := by decide +kernel
theorem dX0_neighbour_8 : decode cX0_neighbour 8 = .ok (.iload_n 2, 1) := by decide +kernel
theorem dX0_neighbour_9 : decode cX0_neighbour 9 = .ok (.iload_n 3, 1) := by decide +kernel
theorem dX0_neighbour_10 : decode cX0_neighbour 10 = .ok (.invokevirtual 45, 3) := by decide +kernel
theorem dX0_neighbour_13 : decode cX0_neighbour 13 = .ok (.invokevirtual 49, 3) := by decide +kernel
theorem dX0_neighbour_16 : decode cX0_neighbour 16 = .ok (.istore 4, 2) := by decide +kernel
theorem dX0_neighbour_18 : decode cX0_neighbour 18 = .ok (.iload 4, 2) := by decide +kernel
theorem dX0_neighbour_20 : decode cX0_neighbour 20 = .ok (.iload_n 1, 1) := by decide +kernel
theorem dX0_neighbour_21 : decode cX0_neighbour 21 = .ok (.if_icmp .ne 7, 3) := by decide +kernel
theorem dX0_neighbour_24 : decode cX0_neighbour 24 = .ok (.iconst (-1), 1) := by decide +kernel
theorem dX0_neighbour_25 : decode cX0_neighbour 25 = .ok (.goto 5, 3) := by decide +kernel
theorem dX0_neighbour_28 : decode cX0_neighbour 28 = .ok (.iload 4, 2) := by decide +kernel
theorem dX0_neighbour_30 : decode cX0_neighbour 30 = .ok (.ireturn, 1) := by decide +kernel
theorem dX0_verdict_0 : decode cX0_verdict 0 = .ok (.aload_n 0, 1) := by decide +kernel
theorem dX0_verdict_1 : decode cX0_verdict 1 = .ok (.getfield 12, 3) := by decide +kernel
theorem dX0_verdict_4 : decode cX0_verdict 4 = .ok (.iload_n 1, 1) := by decide +kernel
theorem dX0_verdict_5 : decode cX0_verdict 5 = .ok (.iload_n 3, 1) := by decide +kernel
theorem dX0_verdict_6 : decode cX0_verdict 6 = .ok (.iload 4, 2) := by decide +kernel
theorem dX0_verdict_8 : decode cX0_verdict 8 = .ok (.invokevirtual 53, 3) := by decide +kernel
theorem dX0_verdict_11 : decode cX0_verdict 11 = .ok (.istore 5, 2) := by decide +kernel
theorem dX0_verdict_13 : decode cX0_verdict 13 = .ok (.aload_n 0, 1) := by decide +kernel
theorem dX0_verdict_14 : decode cX0_verdict 14 = .ok (.getfield 21, 3) := by decide +kernel
theorem dX0_verdict_17 : decode cX0_verdict 17 = .ok (.iload_n 2, 1) := by decide +kernel
theorem dX0_verdict_18 : decode cX0_verdict 18 = .ok (.iload 4, 2) := by decide +kernel
theorem dX0_verdict_20 : decode cX0_verdict 20 = .ok (.invokevirtual 45, 3) := by decide +kernel
theorem dX0_verdict_23 : decode cX0_verdict 23 = .ok (.istore 6, 2) := by decide +kernel
theorem dX0_verdict_25 : decode cX0_verdict 25 = .ok (.iload 6, 2) := by decide +kernel
theorem dX0_verdict_27 : decode cX0_verdict 27 = .ok (.iconst (-1), 1) := by decide +kernel
theorem dX0_verdict_28 : decode cX0_verdict 28 = .ok (.if_icmp .ne 15, 3) := by decide +kernel
theorem dX0_verdict_31 : decode cX0_verdict 31 = .ok (.iload 5, 2) := by decide +kernel
theorem dX0_verdict_33 : decode cX0_verdict 33 = .ok (.iconst (-1), 1) := by decide +kernel
theorem dX0_verdict_34 : decode cX0_verdict 34 = .ok (.if_icmp .ne 7, 3) := by decide +kernel
theorem dX0_verdict_37 : decode cX0_verdict 37 = .ok (.iconst 0, 1) := by decide +kernel
theorem dX0_verdict_38 : decode cX0_verdict 38 = .ok (.goto 4, 3) := by decide +kernel
theorem dX0_verdict_41 : decode cX0_verdict 41 = .ok (.iconst 4, 1) := by decide +kernel
theorem dX0_verdict_42 : decode cX0_verdict 42 = .ok (.ireturn, 1) := by decide +kernel
theorem dX0_verdict_43 : decode cX0_verdict 43 = .ok (.aload_n 0, 1) := by decide +kernel
theorem dX0_verdict_44 : decode cX0_verdict 44 = .ok (.getfield 21, 3) := by decide +kernel
theorem dX0_verdict_47 : decode cX0_verdict 47 = .ok (.iload 6, 2) := by decide +kernel
theorem dX0_verdict_49 : decode cX0_verdict 49 = .ok (.invokevirtual 49, 3) := by decide +kernel
theorem dX0_verdict_52 : decode cX0_verdict 52 = .ok (.istore 7, 2) := by decide +kernel
theorem dX0_verdict_54 : decode cX0_verdict 54 = .ok (.iload 7, 2) := by decide +kernel
theorem dX0_verdict_56 : decode cX0_verdict 56 = .ok (.iconst (-1), 1) := by decide +kernel
theorem dX0_verdict_57 : decode cX0_verdict 57 = .ok (.if_icmp .eq 9, 3) := by decide +kernel
theorem dX0_verdict_60 : decode cX0_verdict 60 = .ok (.iload 7, 2) := by decide +kernel
theorem dX0_verdict_62 : decode cX0_verdict 62 = .ok (.iload_n 1, 1) := by decide +kernel
theorem dX0_verdict_63 : decode cX0_verdict 63 = .ok (.if_icmp .ne 5, 3) := by decide +kernel
theorem dX0_verdict_66 : decode cX0_verdict 66 = .ok (.iconst (-1), 1) := by decide +kernel
theorem dX0_verdict_67 : decode cX0_verdict 67 = .ok (.ireturn, 1) := by decide +kernel
theorem dX0_verdict_68 : decode cX0_verdict 68 = .ok (.aload_n 0, 1) := by decide +kernel
theorem dX0_verdict_69 : decode cX0_verdict 69 = .ok (.getfield 21, 3) := by decide +kernel
theorem dX0_verdict_72 : decode cX0_verdict 72 = .ok (.iload 7, 2) := by decide +kernel
theorem dX0_verdict_74 : decode cX0_verdict 74 = .ok (.invokevirtual 57, 3) := by decide +kernel
theorem dX0_verdict_77 : decode cX0_verdict 77 = .ok (.istore 8, 2) := by decide +kernel
theorem dX0_verdict_79 : decode cX0_verdict 79 = .ok (.iload 4, 2) := by decide +kernel
theorem dX0_verdict_81 : decode cX0_verdict 81 = .ok (.iconst 2, 1) := by decide +kernel
theorem dX0_verdict_82 : decode cX0_verdict 82 = .ok (.iadd, 1) := by decide +kernel
theorem dX0_verdict_83 : decode cX0_verdict 83 = .ok (.iconst 3, 1) := by decide +kernel
theorem dX0_verdict_84 : decode cX0_verdict 84 = .ok (.iand, 1) := by decide +kernel
theorem dX0_verdict_85 : decode cX0_verdict 85 = .ok (.istore 9, 2) := by decide +kernel
theorem dX0_verdict_87 : decode cX0_verdict 87 = .ok (.aload_n 0, 1) := by decide +kernel
theorem dX0_verdict_88 : decode cX0_verdict 88 = .ok (.getfield 12, 3) := by decide +kernel
theorem dX0_verdict_91 : decode cX0_verdict 91 = .ok (.iload 7, 2) := by decide +kernel
theorem dX0_verdict_93 : decode cX0_verdict 93 = .ok (.iload 8, 2) := by decide +kernel
theorem dX0_verdict_95 : decode cX0_verdict 95 = .ok (.iload 9, 2) := by decide +kernel
theorem dX0_verdict_97 : decode cX0_verdict 97 = .ok (.invokevirtual 53, 3) := by decide +kernel
theorem dX0_verdict_100 : decode cX0_verdict 100 = .ok (.istore 10, 2) := by decide +kernel
theorem dX0_verdict_102 : decode cX0_verdict 102 = .ok (.iload 5, 2) := by decide +kernel
theorem dX0_verdict_104 : decode cX0_verdict 104 = .ok (.iconst (-1), 1) := by decide +kernel
theorem dX0_verdict_105 : decode cX0_verdict 105 = .ok (.if_icmp .eq 9, 3) := by decide +kernel
theorem dX0_verdict_108 : decode cX0_verdict 108 = .ok (.iload 10, 2) := by decide +kernel
theorem dX0_verdict_110 : decode cX0_verdict 110 = .ok (.iconst (-1), 1) := by decide +kernel
theorem dX0_verdict_111 : decode cX0_verdict 111 = .ok (.if_icmp .ne 5, 3) := by decide +kernel
theorem dX0_verdict_114 : decode cX0_verdict 114 = .ok (.iconst 1, 1) := by decide +kernel
theorem dX0_verdict_115 : decode cX0_verdict 115 = .ok (.ireturn, 1) := by decide +kernel
theorem dX0_verdict_116 : decode cX0_verdict 116 = .ok (.iload 5, 2) := by decide +kernel
theorem dX0_verdict_118 : decode cX0_verdict 118 = .ok (.iload 10, 2) := by decide +kernel
theorem dX0_verdict_120 : decode cX0_verdict 120 = .ok (.iadd, 1) := by decide +kernel
theorem dX0_verdict_121 : decode cX0_verdict 121 = .ok (.sipush 999, 3) := by decide +kernel
theorem dX0_verdict_124 : decode cX0_verdict 124 = .ok (.if_icmp .eq 5, 3) := by decide +kernel
theorem dX0_verdict_127 : decode cX0_verdict 127 = .ok (.iconst 2, 1) := by decide +kernel
theorem dX0_verdict_128 : decode cX0_verdict 128 = .ok (.ireturn, 1) := by decide +kernel
theorem dX0_verdict_129 : decode cX0_verdict 129 = .ok (.aload_n 0, 1) := by decide +kernel
theorem dX0_verdict_130 : decode cX0_verdict 130 = .ok (.getfield 12, 3) := by decide +kernel
theorem dX0_verdict_133 : decode cX0_verdict 133 = .ok (.iload_n 1, 1) := by decide +kernel
theorem dX0_verdict_134 : decode cX0_verdict 134 = .ok (.iload_n 3, 1) := by decide +kernel
theorem dX0_verdict_135 : decode cX0_verdict 135 = .ok (.iload 4, 2) := by decide +kernel
theorem dX0_verdict_137 : decode cX0_verdict 137 = .ok (.invokevirtual 60, 3) := by decide +kernel
theorem dX0_verdict_140 : decode cX0_verdict 140 = .ok (.istore 11, 2) := by decide +kernel
theorem dX0_verdict_142 : decode cX0_verdict 142 = .ok (.iload 11, 2) := by decide +kernel
theorem dX0_verdict_144 : decode cX0_verdict 144 = .ok (.aload_n 0, 1) := by decide +kernel
theorem dX0_verdict_145 : decode cX0_verdict 145 = .ok (.getfield 12, 3) := by decide +kernel
theorem dX0_verdict_148 : decode cX0_verdict 148 = .ok (.iload 7, 2) := by decide +kernel
theorem dX0_verdict_150 : decode cX0_verdict 150 = .ok (.iload 8, 2) := by decide +kernel
theorem dX0_verdict_152 : decode cX0_verdict 152 = .ok (.iload 9, 2) := by decide +kernel
theorem dX0_verdict_154 : decode cX0_verdict 154 = .ok (.invokevirtual 60, 3) := by decide +kernel
theorem dX0_verdict_157 : decode cX0_verdict 157 = .ok (.if_icmp .ne 7, 3) := by decide +kernel
theorem dX0_verdict_160 : decode cX0_verdict 160 = .ok (.iconst 0, 1) := by decide +kernel
theorem dX0_verdict_161 : decode cX0_verdict 161 = .ok (.goto 4, 3) := by decide +kernel
theorem dX0_verdict_164 : decode cX0_verdict 164 = .ok (.iconst 3, 1) := by decide +kernel
theorem dX0_verdict_165 : decode cX0_verdict 165 = .ok (.ireturn, 1) := by decide +kernel
theorem dX0_canLie_0 : decode cX0_canLie 0 = .ok (.iconst 0, 1) := by decide +kernel
theorem dX0_canLie_1 : decode cX0_canLie 1 = .ok (.istore 4, 2) := by decide +kernel
theorem dX0_canLie_3 : decode cX0_canLie 3 = .ok (.iload 4, 2) := by decide +kernel
theorem dX0_canLie_5 : decode cX0_canLie 5 = .ok (.iconst 4, 1) := by decide +kernel
theorem dX0_canLie_6 : decode cX0_canLie 6 = .ok (.if_icmp .ge 23, 3) := by decide +kernel
theorem dX0_canLie_9 : decode cX0_canLie 9 = .ok (.aload_n 0, 1) := by decide +kernel
theorem dX0_canLie_10 : decode cX0_canLie 10 = .ok (.iload_n 1, 1) := by decide +kernel
theorem dX0_canLie_11 : decode cX0_canLie 11 = .ok (.iload_n 2, 1) := by decide +kernel
theorem dX0_canLie_12 : decode cX0_canLie 12 = .ok (.iload_n 3, 1) := by decide +kernel
theorem dX0_canLie_13 : decode cX0_canLie 13 = .ok (.iload 4, 2) := by decide +kernel
theorem dX0_canLie_15 : decode cX0_canLie 15 = .ok (.invokevirtual 63, 3) := by decide +kernel
theorem dX0_canLie_18 : decode cX0_canLie 18 = .ok (.ifCond .le 5, 3) := by decide +kernel
theorem dX0_canLie_21 : decode cX0_canLie 21 = .ok (.iconst 0, 1) := by decide +kernel
theorem dX0_canLie_22 : decode cX0_canLie 22 = .ok (.ireturn, 1) := by decide +kernel
theorem dX0_canLie_23 : decode cX0_canLie 23 = .ok (.iinc 4 1, 3) := by decide +kernel
theorem dX0_canLie_26 : decode cX0_canLie 26 = .ok (.goto (-23), 3) := by decide +kernel
theorem dX0_canLie_29 : decode cX0_canLie 29 = .ok (.iconst 1, 1) := by decide +kernel
theorem dX0_canLie_30 : decode cX0_canLie 30 = .ok (.ireturn, 1) := by decide +kernel
theorem dX0_countWays_0 : decode cX0_countWays 0 = .ok (.iconst 0, 1) := by decide +kernel
theorem dX0_countWays_1 : decode cX0_countWays 1 = .ok (.istore_n 3, 1) := by decide +kernel
theorem dX0_countWays_2 : decode cX0_countWays 2 = .ok (.iconst 0, 1) := by decide +kernel
theorem dX0_countWays_3 : decode cX0_countWays 3 = .ok (.istore 4, 2) := by decide +kernel
theorem dX0_countWays_5 : decode cX0_countWays 5 = .ok (.iload 4, 2) := by decide +kernel
theorem dX0_countWays_7 : decode cX0_countWays 7 = .ok (.bipush 8, 2) := by decide +kernel
theorem dX0_countWays_9 : decode cX0_countWays 9 = .ok (.if_icmp .ge 23, 3) := by decide +kernel
theorem dX0_countWays_12 : decode cX0_countWays 12 = .ok (.aload_n 0, 1) := by decide +kernel
theorem dX0_countWays_13 : decode cX0_countWays 13 = .ok (.iload_n 1, 1) := by decide +kernel
theorem dX0_countWays_14 : decode cX0_countWays 14 = .ok (.iload_n 2, 1) := by decide +kernel
theorem dX0_countWays_15 : decode cX0_countWays 15 = .ok (.iload 4, 2) := by decide +kernel
theorem dX0_countWays_17 : decode cX0_countWays 17 = .ok (.invokevirtual 67, 3) := by decide +kernel
theorem dX0_countWays_20 : decode cX0_countWays 20 = .ok (.ifCond .eq 6, 3) := by decide +kernel
theorem dX0_countWays_23 : decode cX0_countWays 23 = .ok (.iinc 3 1, 3) := by decide +kernel
theorem dX0_countWays_26 : decode cX0_countWays 26 = .ok (.iinc 4 1, 3) := by decide +kernel
theorem dX0_countWays_29 : decode cX0_countWays 29 = .ok (.goto (-24), 3) := by decide +kernel
theorem dX0_countWays_32 : decode cX0_countWays 32 = .ok (.iload_n 3, 1) := by decide +kernel
theorem dX0_countWays_33 : decode cX0_countWays 33 = .ok (.ireturn, 1) := by decide +kernel
theorem dX0_seamsAt_0 : decode cX0_seamsAt 0 = .ok (.iconst 0, 1) := by decide +kernel
theorem dX0_seamsAt_1 : decode cX0_seamsAt 1 = .ok (.istore_n 3, 1) := by decide +kernel
theorem dX0_seamsAt_2 : decode cX0_seamsAt 2 = .ok (.iconst 0, 1) := by decide +kernel
theorem dX0_seamsAt_3 : decode cX0_seamsAt 3 = .ok (.istore 4, 2) := by decide +kernel
theorem dX0_seamsAt_5 : decode cX0_seamsAt 5 = .ok (.iload 4, 2) := by decide +kernel
theorem dX0_seamsAt_7 : decode cX0_seamsAt 7 = .ok (.iconst 4, 1) := by decide +kernel
theorem dX0_seamsAt_8 : decode cX0_seamsAt 8 = .ok (.if_icmp .ge 24, 3) := by decide +kernel
theorem dX0_seamsAt_11 : decode cX0_seamsAt 11 = .ok (.aload_n 0, 1) := by decide +kernel
theorem dX0_seamsAt_12 : decode cX0_seamsAt 12 = .ok (.iload_n 1, 1) := by decide +kernel
theorem dX0_seamsAt_13 : decode cX0_seamsAt 13 = .ok (.iload_n 2, 1) := by decide +kernel
theorem dX0_seamsAt_14 : decode cX0_seamsAt 14 = .ok (.iload 4, 2) := by decide +kernel
theorem dX0_seamsAt_16 : decode cX0_seamsAt 16 = .ok (.invokevirtual 71, 3) := by decide +kernel
theorem dX0_seamsAt_19 : decode cX0_seamsAt 19 = .ok (.iconst (-1), 1) := by decide +kernel
theorem dX0_seamsAt_20 : decode cX0_seamsAt 20 = .ok (.if_icmp .eq 6, 3) := by decide +kernel
theorem dX0_seamsAt_23 : decode cX0_seamsAt 23 = .ok (.iinc 3 1, 3) := by decide +kernel
theorem dX0_seamsAt_26 : decode cX0_seamsAt 26 = .ok (.iinc 4 1, 3) := by decide +kernel
theorem dX0_seamsAt_29 : decode cX0_seamsAt 29 = .ok (.goto (-24), 3) := by decide +kernel
theorem dX0_seamsAt_32 : decode cX0_seamsAt 32 = .ok (.iload_n 3, 1) := by decide +kernel
theorem dX0_seamsAt_33 : decode cX0_seamsAt 33 = .ok (.ireturn, 1) := by decide +kernel
theorem dX0_countFits_0 : decode cX0_countFits 0 = .ok (.iconst 0, 1) := by decide +kernel
theorem dX0_countFits_1 : decode cX0_countFits 1 = .ok (.istore_n 2, 1) := by decide +kernel
theorem dX0_countFits_2 : decode cX0_countFits 2 = .ok (.iconst 0, 1) := by decide +kernel
theorem dX0_countFits_3 : decode cX0_countFits 3 = .ok (.istore_n 3, 1) := by decide +kernel
theorem dX0_countFits_4 : decode cX0_countFits 4 = .ok (.iload_n 3, 1) := by decide +kernel
theorem dX0_countFits_5 : decode cX0_countFits 5 = .ok (.iconst 4, 1) := by decide +kernel
theorem dX0_countFits_6 : decode cX0_countFits 6 = .ok (.if_icmp .ge 21, 3) := by decide +kernel
theorem dX0_countFits_9 : decode cX0_countFits 9 = .ok (.aload_n 0, 1) := by decide +kernel
theorem dX0_countFits_10 : decode cX0_countFits 10 = .ok (.iload_n 1, 1) := by decide +kernel
theorem dX0_countFits_11 : decode cX0_countFits 11 = .ok (.iload_n 3, 1) := by decide +kernel
theorem dX0_countFits_12 : decode cX0_countFits 12 = .ok (.invokevirtual 74, 3) := by decide +kernel
theorem dX0_countFits_15 : decode cX0_countFits 15 = .ok (.ifCond .ne 6, 3) := by decide +kernel
theorem dX0_countFits_18 : decode cX0_countFits 18 = .ok (.iinc 2 1, 3) := by decide +kernel
theorem dX0_countFits_21 : decode cX0_countFits 21 = .ok (.iinc 3 1, 3) := by decide +kernel
theorem dX0_countFits_24 : decode cX0_countFits 24 = .ok (.goto (-20), 3) := by decide +kernel
theorem dX0_countFits_27 : decode cX0_countFits 27 = .ok (.iload_n 2, 1) := by decide +kernel
theorem dX0_countFits_28 : decode cX0_countFits 28 = .ok (.ireturn, 1) := by decide +kernel
theorem dX0_countFaults_0 : decode cX0_countFaults 0 = .ok (.iconst 0, 1) := by decide +kernel
theorem dX0_countFaults_1 : decode cX0_countFaults 1 = .ok (.istore_n 2, 1) := by decide +kernel
theorem dX0_countFaults_2 : decode cX0_countFaults 2 = .ok (.iconst 0, 1) := by decide +kernel
theorem dX0_countFaults_3 : decode cX0_countFaults 3 = .ok (.istore_n 3, 1) := by decide +kernel
theorem dX0_countFaults_4 : decode cX0_countFaults 4 = .ok (.iload_n 3, 1) := by decide +kernel
theorem dX0_countFaults_5 : decode cX0_countFaults 5 = .ok (.iconst 4, 1) := by decide +kernel
theorem dX0_countFaults_6 : decode cX0_countFaults 6 = .ok (.if_icmp .ge 21, 3) := by decide +kernel
theorem dX0_countFaults_9 : decode cX0_countFaults 9 = .ok (.aload_n 0, 1) := by decide +kernel
theorem dX0_countFaults_10 : decode cX0_countFaults 10 = .ok (.iload_n 1, 1) := by decide +kernel
theorem dX0_countFaults_11 : decode cX0_countFaults 11 = .ok (.iload_n 3, 1) := by decide +kernel
theorem dX0_countFaults_12 : decode cX0_countFaults 12 = .ok (.invokevirtual 74, 3) := by decide +kernel
theorem dX0_countFaults_15 : decode cX0_countFaults 15 = .ok (.ifCond .le 6, 3) := by decide +kernel
theorem dX0_countFaults_18 : decode cX0_countFaults 18 = .ok (.iinc 2 1, 3) := by decide +kernel
theorem dX0_countFaults_21 : decode cX0_countFaults 21 = .ok (.iinc 3 1, 3) := by decide +kernel
theorem dX0_countFaults_24 : decode cX0_countFaults 24 = .ok (.goto (-20), 3) := by decide +kernel
theorem dX0_countFaults_27 : decode cX0_countFaults 27 = .ok (.iload_n 2, 1) := by decide +kernel
theorem dX0_countFaults_28 : decode cX0_countFaults 28 = .ok (.ireturn, 1) := by decide +kernel
theorem dX0_verdictOnPage_0 : decode cX0_verdictOnPage 0 = .ok (.aload_n 0, 1) := by decide +kernel
theorem dX0_verdictOnPage_1 : decode cX0_verdictOnPage 1 = .ok (.getfield 21, 3) := by decide +kernel
theorem dX0_verdictOnPage_4 : decode cX0_verdictOnPage 4 = .ok (.iload_n 1, 1) := by decide +kernel
theorem dX0_verdictOnPage_5 : decode cX0_verdictOnPage 5 = .ok (.invokevirtual 77, 3) := by decide +kernel
theorem dX0_verdictOnPage_8 : decode cX0_verdictOnPage 8 = .ok (.istore_n 3, 1) := by decide +kernel
theorem dX0_verdictOnPage_9 : decode cX0_verdictOnPage 9 = .ok (.iload_n 3, 1) := by decide +kernel
theorem dX0_verdictOnPage_10 : decode cX0_verdictOnPage 10 = .ok (.iconst (-1), 1) := by decide +kernel
theorem dX0_verdictOnPage_11 : decode cX0_verdictOnPage 11 = .ok (.if_icmp .ne 7, 3) := by decide +kernel
theorem dX0_verdictOnPage_14 : decode cX0_verdictOnPage 14 = .ok (.iconst (-1), 1) := by decide +kernel
theorem dX0_verdictOnPage_15 : decode cX0_verdictOnPage 15 = .ok (.goto 18, 3) := by decide +kernel
theorem dX0_verdictOnPage_18 : decode cX0_verdictOnPage 18 = .ok (.aload_n 0, 1) := by decide +kernel
theorem dX0_verdictOnPage_19 : decode cX0_verdictOnPage 19 = .ok (.iload_n 1, 1) := by decide +kernel
theorem dX0_verdictOnPage_20 : decode cX0_verdictOnPage 20 = .ok (.iload_n 3, 1) := by decide +kernel
theorem dX0_verdictOnPage_21 : decode cX0_verdictOnPage 21 = .ok (.aload_n 0, 1) := by decide +kernel
theorem dX0_verdictOnPage_22 : decode cX0_verdictOnPage 22 = .ok (.getfield 21, 3) := by decide +kernel
theorem dX0_verdictOnPage_25 : decode cX0_verdictOnPage 25 = .ok (.iload_n 1, 1) := by decide +kernel
theorem dX0_verdictOnPage_26 : decode cX0_verdictOnPage 26 = .ok (.invokevirtual 57, 3) := by decide +kernel
theorem dX0_verdictOnPage_29 : decode cX0_verdictOnPage 29 = .ok (.iload_n 2, 1) := by decide +kernel
theorem dX0_verdictOnPage_30 : decode cX0_verdictOnPage 30 = .ok (.invokevirtual 63, 3) := by decide +kernel
theorem dX0_verdictOnPage_33 : decode cX0_verdictOnPage 33 = .ok (.ireturn, 1) := by decide +kernel
theorem dX0_neighbourOnPage_0 : decode cX0_neighbourOnPage 0 = .ok (.aload_n 0, 1) := by decide +kernel
theorem dX0_neighbourOnPage_1 : decode cX0_neighbourOnPage 1 = .ok (.getfield 21, 3) := by decide +kernel
theorem dX0_neighbourOnPage_4 : decode cX0_neighbourOnPage 4 = .ok (.iload_n 1, 1) := by decide +kernel
theorem dX0_neighbourOnPage_5 : decode cX0_neighbourOnPage 5 = .ok (.invokevirtual 77, 3) := by decide +kernel
theorem dX0_neighbourOnPage_8 : decode cX0_neighbourOnPage 8 = .ok (.istore_n 3, 1) := by decide +kernel
theorem dX0_neighbourOnPage_9 : decode cX0_neighbourOnPage 9 = .ok (.iload_n 3, 1) := by decide +kernel
theorem dX0_neighbourOnPage_10 : decode cX0_neighbourOnPage 10 = .ok (.iconst (-1), 1) := by decide +kernel
theorem dX0_neighbourOnPage_11 : decode cX0_neighbourOnPage 11 = .ok (.if_icmp .ne 7, 3) := by decide +kernel
theorem dX0_neighbourOnPage_14 : decode cX0_neighbourOnPage 14 = .ok (.iconst (-1), 1) := by decide +kernel
theorem dX0_neighbourOnPage_15 : decode cX0_neighbourOnPage 15 = .ok (.goto 10, 3) := by decide +kernel
theorem dX0_neighbourOnPage_18 : decode cX0_neighbourOnPage 18 = .ok (.aload_n 0, 1) := by decide +kernel
theorem dX0_neighbourOnPage_19 : decode cX0_neighbourOnPage 19 = .ok (.iload_n 1, 1) := by decide +kernel
theorem dX0_neighbourOnPage_20 : decode cX0_neighbourOnPage 20 = .ok (.iload_n 3, 1) := by decide +kernel
theorem dX0_neighbourOnPage_21 : decode cX0_neighbourOnPage 21 = .ok (.iload_n 2, 1) := by decide +kernel
theorem dX0_neighbourOnPage_22 : decode cX0_neighbourOnPage 22 = .ok (.invokevirtual 71, 3) := by decide +kernel
theorem dX0_neighbourOnPage_25 : decode cX0_neighbourOnPage 25 = .ok (.ireturn, 1) := by decide +kernel
theorem dX0_isJoined_0 : decode cX0_isJoined 0 = .ok (.aload_n 0, 1) := by decide +kernel
theorem dX0_isJoined_1 : decode cX0_isJoined 1 = .ok (.getfield 21, 3) := by decide +kernel
theorem dX0_isJoined_4 : decode cX0_isJoined 4 = .ok (.iload_n 1, 1) := by decide +kernel
theorem dX0_isJoined_5 : decode cX0_isJoined 5 = .ok (.invokevirtual 77, 3) := by decide +kernel
theorem dX0_isJoined_8 : decode cX0_isJoined 8 = .ok (.istore_n 3, 1) := by decide +kernel
theorem dX0_isJoined_9 : decode cX0_isJoined 9 = .ok (.iload_n 3, 1) := by decide +kernel
theorem dX0_isJoined_10 : decode cX0_isJoined 10 = .ok (.iconst (-1), 1) := by decide +kernel
theorem dX0_isJoined_11 : decode cX0_isJoined 11 = .ok (.if_icmp .eq 38, 3) := by decide +kernel
theorem dX0_isJoined_14 : decode cX0_isJoined 14 = .ok (.aload_n 0, 1) := by decide +kernel
theorem dX0_isJoined_15 : decode cX0_isJoined 15 = .ok (.getfield 21, 3) := by decide +kernel
theorem dX0_isJoined_18 : decode cX0_isJoined 18 = .ok (.iload_n 3, 1) := by decide +kernel
theorem dX0_isJoined_19 : decode cX0_isJoined 19 = .ok (.iload_n 2, 1) := by decide +kernel
theorem dX0_isJoined_20 : decode cX0_isJoined 20 = .ok (.invokevirtual 45, 3) := by decide +kernel
theorem dX0_isJoined_23 : decode cX0_isJoined 23 = .ok (.iconst (-1), 1) := by decide +kernel
theorem dX0_isJoined_24 : decode cX0_isJoined 24 = .ok (.if_icmp .eq 25, 3) := by decide +kernel
theorem dX0_isJoined_27 : decode cX0_isJoined 27 = .ok (.aload_n 0, 1) := by decide +kernel
theorem dX0_isJoined_28 : decode cX0_isJoined 28 = .ok (.iload_n 1, 1) := by decide +kernel
theorem dX0_isJoined_29 : decode cX0_isJoined 29 = .ok (.iload_n 3, 1) := by decide +kernel
theorem dX0_isJoined_30 : decode cX0_isJoined 30 = .ok (.aload_n 0, 1) := by decide +kernel
theorem dX0_isJoined_31 : decode cX0_isJoined 31 = .ok (.getfield 21, 3) := by decide +kernel
theorem dX0_isJoined_34 : decode cX0_isJoined 34 = .ok (.iload_n 1, 1) := by decide +kernel
theorem dX0_isJoined_35 : decode cX0_isJoined 35 = .ok (.invokevirtual 57, 3) := by decide +kernel
theorem dX0_isJoined_38 : decode cX0_isJoined 38 = .ok (.iload_n 2, 1) := by decide +kernel
theorem dX0_isJoined_39 : decode cX0_isJoined 39 = .ok (.invokevirtual 63, 3) := by decide +kernel
theorem dX0_isJoined_42 : decode cX0_isJoined 42 = .ok (.ifCond .ne 7, 3) := by decide +kernel
theorem dX0_isJoined_45 : decode cX0_isJoined 45 = .ok (.iconst 1, 1) := by decide +kernel
theorem dX0_isJoined_46 : decode cX0_isJoined 46 = .ok (.goto 4, 3) := by decide +kernel
theorem dX0_isJoined_49 : decode cX0_isJoined 49 = .ok (.iconst 0, 1) := by decide +kernel
theorem dX0_isJoined_50 : decode cX0_isJoined 50 = .ok (.ireturn, 1) := by decide +kernel
theorem dX0_countSeams_0 : decode cX0_countSeams 0 = .ok (.iconst 0, 1) := by decide +kernel
theorem dX0_countSeams_1 : decode cX0_countSeams 1 = .ok (.istore_n 1, 1) := by decide +kernel
theorem dX0_countSeams_2 : decode cX0_countSeams 2 = .ok (.iconst 0, 1) := by decide +kernel
theorem dX0_countSeams_3 : decode cX0_countSeams 3 = .ok (.istore_n 2, 1) := by decide +kernel
theorem dX0_countSeams_4 : decode cX0_countSeams 4 = .ok (.iload_n 2, 1) := by decide +kernel
theorem dX0_countSeams_5 : decode cX0_countSeams 5 = .ok (.aload_n 0, 1) := by decide +kernel
theorem dX0_countSeams_6 : decode cX0_countSeams 6 = .ok (.getfield 12, 3) := by decide +kernel
theorem dX0_countSeams_9 : decode cX0_countSeams 9 = .ok (.invokevirtual 37, 3) := by decide +kernel
theorem dX0_countSeams_12 : decode cX0_countSeams 12 = .ok (.if_icmp .ge 35, 3) := by decide +kernel
theorem dX0_countSeams_15 : decode cX0_countSeams 15 = .ok (.iconst 1, 1) := by decide +kernel
theorem dX0_countSeams_16 : decode cX0_countSeams 16 = .ok (.istore_n 3, 1) := by decide +kernel
theorem dX0_countSeams_17 : decode cX0_countSeams 17 = .ok (.iload_n 3, 1) := by decide +kernel
theorem dX0_countSeams_18 : decode cX0_countSeams 18 = .ok (.iconst 2, 1) := by decide +kernel
theorem dX0_countSeams_19 : decode cX0_countSeams 19 = .ok (.if_icmp .gt 22, 3) := by decide +kernel
theorem dX0_countSeams_22 : decode cX0_countSeams 22 = .ok (.aload_n 0, 1) := by decide +kernel
theorem dX0_countSeams_23 : decode cX0_countSeams 23 = .ok (.iload_n 2, 1) := by decide +kernel
theorem dX0_countSeams_24 : decode cX0_countSeams 24 = .ok (.iload_n 3, 1) := by decide +kernel
theorem dX0_countSeams_25 : decode cX0_countSeams 25 = .ok (.invokevirtual 80, 3) := by decide +kernel
theorem dX0_countSeams_28 : decode cX0_countSeams 28 = .ok (.iconst (-1), 1) := by decide +kernel
theorem dX0_countSeams_29 : decode cX0_countSeams 29 = .ok (.if_icmp .eq 6, 3) := by decide +kernel
theorem dX0_countSeams_32 : decode cX0_countSeams 32 = .ok (.iinc 1 1, 3) := by decide +kernel
theorem dX0_countSeams_35 : decode cX0_countSeams 35 = .ok (.iinc 3 1, 3) := by decide +kernel
theorem dX0_countSeams_38 : decode cX0_countSeams 38 = .ok (.goto (-21), 3) := by decide +kernel
theorem dX0_countSeams_41 : decode cX0_countSeams 41 = .ok (.iinc 2 1, 3) := by decide +kernel
theorem dX0_countSeams_44 : decode cX0_countSeams 44 = .ok (.goto (-40), 3) := by decide +kernel
theorem dX0_countSeams_47 : decode cX0_countSeams 47 = .ok (.iload_n 1, 1) := by decide +kernel
theorem dX0_countSeams_48 : decode cX0_countSeams 48 = .ok (.ireturn, 1) := by decide +kernel
theorem dX0_countFittingSeams_0 : decode cX0_countFittingSeams 0 = .ok (.iconst 0, 1) := by decide +kernel
theorem dX0_countFittingSeams_1 : decode cX0_countFittingSeams 1 = .ok (.istore_n 1, 1) := by decide +kernel
theorem dX0_countFittingSeams_2 : decode cX0_countFittingSeams 2 = .ok (.iconst 0, 1) := by decide +kernel
theorem dX0_countFittingSeams_3 : decode cX0_countFittingSeams 3 = .ok (.istore_n 2, 1) := by decide +kernel
theorem dX0_countFittingSeams_4 : decode cX0_countFittingSeams 4 = .ok (.iload_n 2, 1) := by decide +kernel
theorem dX0_countFittingSeams_5 : decode cX0_countFittingSeams 5 = .ok (.aload_n 0, 1) := by decide +kernel
theorem dX0_countFittingSeams_6 : decode cX0_countFittingSeams 6 = .ok (.getfield 12, 3) := by decide +kernel
theorem dX0_countFittingSeams_9 : decode cX0_countFittingSeams 9 = .ok (.invokevirtual 37, 3) := by decide +kernel
theorem dX0_countFittingSeams_12 : decode cX0_countFittingSeams 12 = .ok (.if_icmp .ge 34, 3) := by decide +kernel
theorem dX0_countFittingSeams_15 : decode cX0_countFittingSeams 15 = .ok (.iconst 1, 1) := by decide +kernel
theorem dX0_countFittingSeams_16 : decode cX0_countFittingSeams 16 = .ok (.istore_n 3, 1) := by decide +kernel
theorem dX0_countFittingSeams_17 : decode cX0_countFittingSeams 17 = .ok (.iload_n 3, 1) := by decide +kernel
theorem dX0_countFittingSeams_18 : decode cX0_countFittingSeams 18 = .ok (.iconst 2, 1) := by decide +kernel
theorem dX0_countFittingSeams_19 : decode cX0_countFittingSeams 19 = .ok (.if_icmp .gt 21, 3) := by decide +kernel
theorem dX0_countFittingSeams_22 : decode cX0_countFittingSeams 22 = .ok (.aload_n 0, 1) := by decide +kernel
theorem dX0_countFittingSeams_23 : decode cX0_countFittingSeams 23 = .ok (.iload_n 2, 1) := by decide +kernel
theorem dX0_countFittingSeams_24 : decode cX0_countFittingSeams 24 = .ok (.iload_n 3, 1) := by decide +kernel
theorem dX0_countFittingSeams_25 : decode cX0_countFittingSeams 25 = .ok (.invokevirtual 83, 3) := by decide +kernel
theorem dX0_countFittingSeams_28 : decode cX0_countFittingSeams 28 = .ok (.ifCond .eq 6, 3) := by decide +kernel
theorem dX0_countFittingSeams_31 : decode cX0_countFittingSeams 31 = .ok (.iinc 1 1, 3) := by decide +kernel
theorem dX0_countFittingSeams_34 : decode cX0_countFittingSeams 34 = .ok (.iinc 3 1, 3) := by decide +kernel
theorem dX0_countFittingSeams_37 : decode cX0_countFittingSeams 37 = .ok (.goto (-20), 3) := by decide +kernel
theorem dX0_countFittingSeams_40 : decode cX0_countFittingSeams 40 = .ok (.iinc 2 1, 3) := by decide +kernel
theorem dX0_countFittingSeams_43 : decode cX0_countFittingSeams 43 = .ok (.goto (-39), 3) := by decide +kernel
theorem dX0_countFittingSeams_46 : decode cX0_countFittingSeams 46 = .ok (.iload_n 1, 1) := by decide +kernel
theorem dX0_countFittingSeams_47 : decode cX0_countFittingSeams 47 = .ok (.ireturn, 1) := by decide +kernel
theorem dX0_countBorderEdges_0 : decode cX0_countBorderEdges 0 = .ok (.iconst 0, 1) := by decide +kernel
theorem dX0_countBorderEdges_1 : decode cX0_countBorderEdges 1 = .ok (.istore_n 2, 1) := by decide +kernel
theorem dX0_countBorderEdges_2 : decode cX0_countBorderEdges 2 = .ok (.iconst 0, 1) := by decide +kernel
theorem dX0_countBorderEdges_3 : decode cX0_countBorderEdges 3 = .ok (.istore_n 3, 1) := by decide +kernel
theorem dX0_countBorderEdges_4 : decode cX0_countBorderEdges 4 = .ok (.iload_n 3, 1) := by decide +kernel
theorem dX0_countBorderEdges_5 : decode cX0_countBorderEdges 5 = .ok (.aload_n 0, 1) := by decide +kernel
theorem dX0_countBorderEdges_6 : decode cX0_countBorderEdges 6 = .ok (.getfield 12, 3) := by decide +kernel
theorem dX0_countBorderEdges_9 : decode cX0_countBorderEdges 9 = .ok (.invokevirtual 37, 3) := by decide +kernel
theorem dX0_countBorderEdges_12 : decode cX0_countBorderEdges 12 = .ok (.if_icmp .ge 48, 3) := by decide +kernel
theorem dX0_countBorderEdges_15 : decode cX0_countBorderEdges 15 = .ok (.iconst 0, 1) := by decide +kernel
theorem dX0_countBorderEdges_16 : decode cX0_countBorderEdges 16 = .ok (.istore 4, 2) := by decide +kernel
theorem dX0_countBorderEdges_18 : decode cX0_countBorderEdges 18 = .ok (.iload 4, 2) := by decide +kernel
theorem dX0_countBorderEdges_20 : decode cX0_countBorderEdges 20 = .ok (.iconst 4, 1) := by decide +kernel
theorem dX0_countBorderEdges_21 : decode cX0_countBorderEdges 21 = .ok (.if_icmp .ge 33, 3) := by decide +kernel
theorem dX0_countBorderEdges_24 : decode cX0_countBorderEdges 24 = .ok (.aload_n 0, 1) := by decide +kernel
theorem dX0_countBorderEdges_25 : decode cX0_countBorderEdges 25 = .ok (.iload_n 3, 1) := by decide +kernel
theorem dX0_countBorderEdges_26 : decode cX0_countBorderEdges 26 = .ok (.iload 4, 2) := by decide +kernel
theorem dX0_countBorderEdges_28 : decode cX0_countBorderEdges 28 = .ok (.invokevirtual 87, 3) := by decide +kernel
theorem dX0_countBorderEdges_31 : decode cX0_countBorderEdges 31 = .ok (.ifCond .eq 17, 3) := by decide +kernel
theorem dX0_countBorderEdges_34 : decode cX0_countBorderEdges 34 = .ok (.aload_n 0, 1) := by decide +kernel
theorem dX0_countBorderEdges_35 : decode cX0_countBorderEdges 35 = .ok (.iload_n 3, 1) := by decide +kernel
theorem dX0_countBorderEdges_36 : decode cX0_countBorderEdges 36 = .ok (.iload 4, 2) := by decide +kernel
theorem dX0_countBorderEdges_38 : decode cX0_countBorderEdges 38 = .ok (.invokevirtual 74, 3) := by decide +kernel
theorem dX0_countBorderEdges_41 : decode cX0_countBorderEdges 41 = .ok (.iload_n 1, 1) := by decide +kernel
theorem dX0_countBorderEdges_42 : decode cX0_countBorderEdges 42 = .ok (.if_icmp .ne 6, 3) := by decide +kernel
theorem dX0_countBorderEdges_45 : decode cX0_countBorderEdges 45 = .ok (.iinc 2 1, 3) := by decide +kernel
theorem dX0_countBorderEdges_48 : decode cX0_countBorderEdges 48 = .ok (.iinc 4 1, 3) := by decide +kernel
theorem dX0_countBorderEdges_51 : decode cX0_countBorderEdges 51 = .ok (.goto (-33), 3) := by decide +kernel
theorem dX0_countBorderEdges_54 : decode cX0_countBorderEdges 54 = .ok (.iinc 3 1, 3) := by decide +kernel
theorem dX0_countBorderEdges_57 : decode cX0_countBorderEdges 57 = .ok (.goto (-53), 3) := by decide +kernel
theorem dX0_countBorderEdges_60 : decode cX0_countBorderEdges 60 = .ok (.iload_n 2, 1) := by decide +kernel
theorem dX0_countBorderEdges_61 : decode cX0_countBorderEdges 61 = .ok (.ireturn, 1) := by decide +kernel
theorem dX0_isAtBorder_0 : decode cX0_isAtBorder 0 = .ok (.aload_n 0, 1) := by decide +kernel
theorem dX0_isAtBorder_1 : decode cX0_isAtBorder 1 = .ok (.getfield 21, 3) := by decide +kernel
theorem dX0_isAtBorder_4 : decode cX0_isAtBorder 4 = .ok (.iload_n 1, 1) := by decide +kernel
theorem dX0_isAtBorder_5 : decode cX0_isAtBorder 5 = .ok (.invokevirtual 41, 3) := by decide +kernel
theorem dX0_isAtBorder_8 : decode cX0_isAtBorder 8 = .ok (.ifCond .eq 27, 3) := by decide +kernel
theorem dX0_isAtBorder_11 : decode cX0_isAtBorder 11 = .ok (.aload_n 0, 1) := by decide +kernel
theorem dX0_isAtBorder_12 : decode cX0_isAtBorder 12 = .ok (.getfield 21, 3) := by decide +kernel
theorem dX0_isAtBorder_15 : decode cX0_isAtBorder 15 = .ok (.aload_n 0, 1) := by decide +kernel
theorem dX0_isAtBorder_16 : decode cX0_isAtBorder 16 = .ok (.getfield 21, 3) := by decide +kernel
theorem dX0_isAtBorder_19 : decode cX0_isAtBorder 19 = .ok (.iload_n 1, 1) := by decide +kernel
theorem dX0_isAtBorder_20 : decode cX0_isAtBorder 20 = .ok (.invokevirtual 77, 3) := by decide +kernel
theorem dX0_isAtBorder_23 : decode cX0_isAtBorder 23 = .ok (.iload_n 2, 1) := by decide +kernel
theorem dX0_isAtBorder_24 : decode cX0_isAtBorder 24 = .ok (.invokevirtual 45, 3) := by decide +kernel
theorem dX0_isAtBorder_27 : decode cX0_isAtBorder 27 = .ok (.iconst (-1), 1) := by decide +kernel
theorem dX0_isAtBorder_28 : decode cX0_isAtBorder 28 = .ok (.if_icmp .ne 7, 3) := by decide +kernel
theorem dX0_isAtBorder_31 : decode cX0_isAtBorder 31 = .ok (.iconst 1, 1) := by decide +kernel
theorem dX0_isAtBorder_32 : decode cX0_isAtBorder 32 = .ok (.goto 4, 3) := by decide +kernel
theorem dX0_isAtBorder_35 : decode cX0_isAtBorder 35 = .ok (.iconst 0, 1) := by decide +kernel
theorem dX0_isAtBorder_36 : decode cX0_isAtBorder 36 = .ok (.ireturn, 1) := by decide +kernel
theorem dX0_bestPlace_0 : decode cX0_bestPlace 0 = .ok (.iconst (-1), 1) := by decide +kernel
theorem dX0_bestPlace_1 : decode cX0_bestPlace 1 = .ok (.istore_n 2, 1) := by decide +kernel
theorem dX0_bestPlace_2 : decode cX0_bestPlace 2 = .ok (.iconst (-1), 1) := by decide +kernel
theorem dX0_bestPlace_3 : decode cX0_bestPlace 3 = .ok (.istore_n 3, 1) := by decide +kernel
theorem dX0_bestPlace_4 : decode cX0_bestPlace 4 = .ok (.iconst 0, 1) := by decide +kernel
theorem dX0_bestPlace_5 : decode cX0_bestPlace 5 = .ok (.istore 4, 2) := by decide +kernel
theorem dX0_bestPlace_7 : decode cX0_bestPlace 7 = .ok (.iload 4, 2) := by decide +kernel
theorem dX0_bestPlace_9 : decode cX0_bestPlace 9 = .ok (.aload_n 0, 1) := by decide +kernel
theorem dX0_bestPlace_10 : decode cX0_bestPlace 10 = .ok (.getfield 21, 3) := by decide +kernel
theorem dX0_bestPlace_13 : decode cX0_bestPlace 13 = .ok (.invokevirtual 90, 3) := by decide +kernel
theorem dX0_bestPlace_16 : decode cX0_bestPlace 16 = .ok (.if_icmp .ge 81, 3) := by decide +kernel
theorem dX0_bestPlace_19 : decode cX0_bestPlace 19 = .ok (.aload_n 0, 1) := by decide +kernel
theorem dX0_bestPlace_20 : decode cX0_bestPlace 20 = .ok (.getfield 21, 3) := by decide +kernel
theorem dX0_bestPlace_23 : decode cX0_bestPlace 23 = .ok (.iload 4, 2) := by decide +kernel
theorem dX0_bestPlace_25 : decode cX0_bestPlace 25 = .ok (.invokevirtual 49, 3) := by decide +kernel
theorem dX0_bestPlace_28 : decode cX0_bestPlace 28 = .ok (.iconst (-1), 1) := by decide +kernel
theorem dX0_bestPlace_29 : decode cX0_bestPlace 29 = .ok (.if_icmp .ne 13, 3) := by decide +kernel
theorem dX0_bestPlace_32 : decode cX0_bestPlace 32 = .ok (.aload_n 0, 1) := by decide +kernel
theorem dX0_bestPlace_33 : decode cX0_bestPlace 33 = .ok (.iload_n 1, 1) := by decide +kernel
theorem dX0_bestPlace_34 : decode cX0_bestPlace 34 = .ok (.iload 4, 2) := by decide +kernel
theorem dX0_bestPlace_36 : decode cX0_bestPlace 36 = .ok (.invokevirtual 93, 3) := by decide +kernel
theorem dX0_bestPlace_39 : decode cX0_bestPlace 39 = .ok (.goto 4, 3) := by decide +kernel
theorem dX0_bestPlace_42 : decode cX0_bestPlace 42 = .ok (.iconst (-1), 1) := by decide +kernel
theorem dX0_bestPlace_43 : decode cX0_bestPlace 43 = .ok (.istore 5, 2) := by decide +kernel
theorem dX0_bestPlace_45 : decode cX0_bestPlace 45 = .ok (.iconst 0, 1) := by decide +kernel
theorem dX0_bestPlace_46 : decode cX0_bestPlace 46 = .ok (.istore 6, 2) := by decide +kernel
theorem dX0_bestPlace_48 : decode cX0_bestPlace 48 = .ok (.iload 6, 2) := by decide +kernel
theorem dX0_bestPlace_50 : decode cX0_bestPlace 50 = .ok (.bipush 8, 2) := by decide +kernel
theorem dX0_bestPlace_52 : decode cX0_bestPlace 52 = .ok (.if_icmp .ge 39, 3) := by decide +kernel
theorem dX0_bestPlace_55 : decode cX0_bestPlace 55 = .ok (.iload 5, 2) := by decide +kernel
theorem dX0_bestPlace_57 : decode cX0_bestPlace 57 = .ok (.iload_n 3, 1) := by decide +kernel
theorem dX0_bestPlace_58 : decode cX0_bestPlace 58 = .ok (.if_icmp .le 33, 3) := by decide +kernel
theorem dX0_bestPlace_61 : decode cX0_bestPlace 61 = .ok (.aload_n 0, 1) := by decide +kernel
theorem dX0_bestPlace_62 : decode cX0_bestPlace 62 = .ok (.iload_n 1, 1) := by decide +kernel
theorem dX0_bestPlace_63 : decode cX0_bestPlace 63 = .ok (.iload 4, 2) := by decide +kernel
theorem dX0_bestPlace_65 : decode cX0_bestPlace 65 = .ok (.iload 6, 2) := by decide +kernel
theorem dX0_bestPlace_67 : decode cX0_bestPlace 67 = .ok (.invokevirtual 67, 3) := by decide +kernel
theorem dX0_bestPlace_70 : decode cX0_bestPlace 70 = .ok (.ifCond .eq 15, 3) := by decide +kernel
theorem dX0_bestPlace_73 : decode cX0_bestPlace 73 = .ok (.iload 4, 2) := by decide +kernel
theorem dX0_bestPlace_75 : decode cX0_bestPlace 75 = .ok (.bipush 10, 2) := by decide +kernel
theorem dX0_bestPlace_77 : decode cX0_bestPlace 77 = .ok (.imul, 1) := by decide +kernel
theorem dX0_bestPlace_78 : decode cX0_bestPlace 78 = .ok (.iload 6, 2) := by decide +kernel
theorem dX0_bestPlace_80 : decode cX0_bestPlace 80 = .ok (.iadd, 1) := by decide +kernel
theorem dX0_bestPlace_81 : decode cX0_bestPlace 81 = .ok (.istore_n 2, 1) := by decide +kernel
theorem dX0_bestPlace_82 : decode cX0_bestPlace 82 = .ok (.iload 5, 2) := by decide +kernel
theorem dX0_bestPlace_84 : decode cX0_bestPlace 84 = .ok (.istore_n 3, 1) := by decide +kernel
theorem dX0_bestPlace_85 : decode cX0_bestPlace 85 = .ok (.iinc 6 1, 3) := by decide +kernel
theorem dX0_bestPlace_88 : decode cX0_bestPlace 88 = .ok (.goto (-40), 3) := by decide +kernel
theorem dX0_bestPlace_91 : decode cX0_bestPlace 91 = .ok (.iinc 4 1, 3) := by decide +kernel
theorem dX0_bestPlace_94 : decode cX0_bestPlace 94 = .ok (.goto (-87), 3) := by decide +kernel
theorem dX0_bestPlace_97 : decode cX0_bestPlace 97 = .ok (.iload_n 2, 1) := by decide +kernel
theorem dX0_bestPlace_98 : decode cX0_bestPlace 98 = .ok (.ireturn, 1) := by decide +kernel
theorem dX0_layNext_0 : decode cX0_layNext 0 = .ok (.iconst 0, 1) := by decide +kernel
theorem dX0_layNext_1 : decode cX0_layNext 1 = .ok (.istore_n 1, 1) := by decide +kernel
theorem dX0_layNext_2 : decode cX0_layNext 2 = .ok (.iload_n 1, 1) := by decide +kernel
theorem dX0_layNext_3 : decode cX0_layNext 3 = .ok (.aload_n 0, 1) := by decide +kernel
theorem dX0_layNext_4 : decode cX0_layNext 4 = .ok (.getfield 12, 3) := by decide +kernel
theorem dX0_layNext_7 : decode cX0_layNext 7 = .ok (.invokevirtual 37, 3) := by decide +kernel
theorem dX0_layNext_10 : decode cX0_layNext 10 = .ok (.if_icmp .ge 53, 3) := by decide +kernel
theorem dX0_layNext_13 : decode cX0_layNext 13 = .ok (.aload_n 0, 1) := by decide +kernel
theorem dX0_layNext_14 : decode cX0_layNext 14 = .ok (.getfield 21, 3) := by decide +kernel
theorem dX0_layNext_17 : decode cX0_layNext 17 = .ok (.iload_n 1, 1) := by decide +kernel
theorem dX0_layNext_18 : decode cX0_layNext 18 = .ok (.invokevirtual 41, 3) := by decide +kernel
theorem dX0_layNext_21 : decode cX0_layNext 21 = .ok (.ifCond .eq 7, 3) := by decide +kernel
theorem dX0_layNext_24 : decode cX0_layNext 24 = .ok (.iconst (-1), 1) := by decide +kernel
theorem dX0_layNext_25 : decode cX0_layNext 25 = .ok (.goto 8, 3) := by decide +kernel
theorem dX0_layNext_28 : decode cX0_layNext 28 = .ok (.aload_n 0, 1) := by decide +kernel
theorem dX0_layNext_29 : decode cX0_layNext 29 = .ok (.iload_n 1, 1) := by decide +kernel
theorem dX0_layNext_30 : decode cX0_layNext 30 = .ok (.invokevirtual 96, 3) := by decide +kernel
theorem dX0_layNext_33 : decode cX0_layNext 33 = .ok (.istore_n 2, 1) := by decide +kernel
theorem dX0_layNext_34 : decode cX0_layNext 34 = .ok (.iload_n 2, 1) := by decide +kernel
theorem dX0_layNext_35 : decode cX0_layNext 35 = .ok (.iconst (-1), 1) := by decide +kernel
theorem dX0_layNext_36 : decode cX0_layNext 36 = .ok (.if_icmp .eq 21, 3) := by decide +kernel
theorem dX0_layNext_39 : decode cX0_layNext 39 = .ok (.aload_n 0, 1) := by decide +kernel
theorem dX0_layNext_40 : decode cX0_layNext 40 = .ok (.getfield 21, 3) := by decide +kernel
theorem dX0_layNext_43 : decode cX0_layNext 43 = .ok (.iload_n 1, 1) := by decide +kernel
theorem dX0_layNext_44 : decode cX0_layNext 44 = .ok (.iload_n 2, 1) := by decide +kernel
theorem dX0_layNext_45 : decode cX0_layNext 45 = .ok (.bipush 10, 2) := by decide +kernel
theorem dX0_layNext_47 : decode cX0_layNext 47 = .ok (.idiv, 1) := by decide +kernel
theorem dX0_layNext_48 : decode cX0_layNext 48 = .ok (.iload_n 2, 1) := by decide +kernel
theorem dX0_layNext_49 : decode cX0_layNext 49 = .ok (.bipush 10, 2) := by decide +kernel
theorem dX0_layNext_51 : decode cX0_layNext 51 = .ok (.irem, 1) := by decide +kernel
theorem dX0_layNext_52 : decode cX0_layNext 52 = .ok (.invokevirtual 99, 3) := by decide +kernel
theorem dX0_layNext_55 : decode cX0_layNext 55 = .ok (.iconst 1, 1) := by decide +kernel
theorem dX0_layNext_56 : decode cX0_layNext 56 = .ok (.ireturn, 1) := by decide +kernel
theorem dX0_layNext_57 : decode cX0_layNext 57 = .ok (.iinc 1 1, 3) := by decide +kernel
theorem dX0_layNext_60 : decode cX0_layNext 60 = .ok (.goto (-58), 3) := by decide +kernel
theorem dX0_layNext_63 : decode cX0_layNext 63 = .ok (.iconst 0, 1) := by decide +kernel
theorem dX0_layNext_64 : decode cX0_layNext 64 = .ok (.ireturn, 1) := by decide +kernel
theorem dX1_init_0 : decode cX1_init 0 = .ok (.aload_n 0, 1) := by decide +kernel
theorem dX1_init_1 : decode cX1_init 1 = .ok (.invokespecial 3, 3) := by decide +kernel
theorem dX1_init_4 : decode cX1_init 4 = .ok (.aload_n 0, 1) := by decide +kernel
theorem dX1_init_5 : decode cX1_init 5 = .ok (.new 9, 3) := by decide +kernel
theorem dX1_init_8 : decode cX1_init 8 = .ok (.dup, 1) := by decide +kernel
theorem dX1_init_9 : decode cX1_init 9 = .ok (.iconst 4, 1) := by decide +kernel
theorem dX1_init_10 : decode cX1_init 10 = .ok (.invokespecial 11, 3) := by decide +kernel
theorem dX1_init_13 : decode cX1_init 13 = .ok (.putfield 14, 3) := by decide +kernel
theorem dX1_init_16 : decode cX1_init 16 = .ok (.aload_n 0, 1) := by decide +kernel
theorem dX1_init_17 : decode cX1_init 17 = .ok (.new 9, 3) := by decide +kernel
theorem dX1_init_20 : decode cX1_init 20 = .ok (.dup, 1) := by decide +kernel
theorem dX1_init_21 : decode cX1_init 21 = .ok (.iconst 4, 1) := by decide +kernel
theorem dX1_init_22 : decode cX1_init 22 = .ok (.invokespecial 11, 3) := by decide +kernel
theorem dX1_init_25 : decode cX1_init 25 = .ok (.putfield 20, 3) := by decide +kernel
theorem dX1_init_28 : decode cX1_init 28 = .ok (.return_, 1) := by decide +kernel
theorem dX1_setEdge_0 : decode cX1_setEdge 0 = .ok (.aload_n 0, 1) := by decide +kernel
theorem dX1_setEdge_1 : decode cX1_setEdge 1 = .ok (.getfield 14, 3) := by decide +kernel
theorem dX1_setEdge_4 : decode cX1_setEdge 4 = .ok (.iload_n 1, 1) := by decide +kernel
theorem dX1_setEdge_5 : decode cX1_setEdge 5 = .ok (.iload_n 2, 1) := by decide +kernel
theorem dX1_setEdge_6 : decode cX1_setEdge 6 = .ok (.invokevirtual 23, 3) := by decide +kernel
theorem dX1_setEdge_9 : decode cX1_setEdge 9 = .ok (.aload_n 0, 1) := by decide +kernel
theorem dX1_setEdge_10 : decode cX1_setEdge 10 = .ok (.getfield 20, 3) := by decide +kernel
theorem dX1_setEdge_13 : decode cX1_setEdge 13 = .ok (.iload_n 1, 1) := by decide +kernel
theorem dX1_setEdge_14 : decode cX1_setEdge 14 = .ok (.iload_n 3, 1) := by decide +kernel
theorem dX1_setEdge_15 : decode cX1_setEdge 15 = .ok (.invokevirtual 23, 3) := by decide +kernel
theorem dX1_setEdge_18 : decode cX1_setEdge 18 = .ok (.return_, 1) := by decide +kernel
theorem dX1_setKind_0 : decode cX1_setKind 0 = .ok (.aload_n 0, 1) := by decide +kernel
theorem dX1_setKind_1 : decode cX1_setKind 1 = .ok (.iload_n 1, 1) := by decide +kernel
theorem dX1_setKind_2 : decode cX1_setKind 2 = .ok (.putfield 27, 3) := by decide +kernel
theorem dX1_setKind_5 : decode cX1_setKind 5 = .ok (.return_, 1) := by decide +kernel
theorem dX1_kind_0 : decode cX1_kind 0 = .ok (.aload_n 0, 1) := by decide +kernel
theorem dX1_kind_1 : decode cX1_kind 1 = .ok (.getfield 27, 3) := by decide +kernel
theorem dX1_kind_4 : decode cX1_kind 4 = .ok (.ireturn, 1) := by decide +kernel
theorem dX1_profile_0 : decode cX1_profile 0 = .ok (.aload_n 0, 1) := by decide +kernel
theorem dX1_profile_1 : decode cX1_profile 1 = .ok (.getfield 14, 3) := by decide +kernel
theorem dX1_profile_4 : decode cX1_profile 4 = .ok (.iload_n 1, 1) := by decide +kernel
theorem dX1_profile_5 : decode cX1_profile 5 = .ok (.iload_n 2, 1) := by decide +kernel
theorem dX1_profile_6 : decode cX1_profile 6 = .ok (.invokestatic 31, 3) := by decide +kernel
theorem dX1_profile_9 : decode cX1_profile 9 = .ok (.invokevirtual 35, 3) := by decide +kernel
theorem dX1_profile_12 : decode cX1_profile 12 = .ok (.istore_n 3, 1) := by decide +kernel
theorem dX1_profile_13 : decode cX1_profile 13 = .ok (.iload_n 1, 1) := by decide +kernel
theorem dX1_profile_14 : decode cX1_profile 14 = .ok (.iload_n 2, 1) := by decide +kernel
theorem dX1_profile_15 : decode cX1_profile 15 = .ok (.invokestatic 39, 3) := by decide +kernel
theorem dX1_profile_18 : decode cX1_profile 18 = .ok (.ifCond .eq 10, 3) := by decide +kernel
theorem dX1_profile_21 : decode cX1_profile 21 = .ok (.iload_n 3, 1) := by decide +kernel
theorem dX1_profile_22 : decode cX1_profile 22 = .ok (.invokestatic 43, 3) := by decide +kernel
theorem dX1_profile_25 : decode cX1_profile 25 = .ok (.goto 4, 3) := by decide +kernel
theorem dX1_profile_28 : decode cX1_profile 28 = .ok (.iload_n 3, 1) := by decide +kernel
theorem dX1_profile_29 : decode cX1_profile 29 = .ok (.ireturn, 1) := by decide +kernel
theorem dX1_line_0 : decode cX1_line 0 = .ok (.aload_n 0, 1) := by decide +kernel
theorem dX1_line_1 : decode cX1_line 1 = .ok (.getfield 27, 3) := by decide +kernel
theorem dX1_line_4 : decode cX1_line 4 = .ok (.ifCond .ne 12, 3) := by decide +kernel
theorem dX1_line_7 : decode cX1_line 7 = .ok (.iload_n 1, 1) := by decide +kernel
theorem dX1_line_8 : decode cX1_line 8 = .ok (.iconst 4, 1) := by decide +kernel
theorem dX1_line_9 : decode cX1_line 9 = .ok (.if_icmp .lt 7, 3) := by decide +kernel
theorem dX1_line_12 : decode cX1_line 12 = .ok (.iconst 1, 1) := by decide +kernel
theorem dX1_line_13 : decode cX1_line 13 = .ok (.goto 4, 3) := by decide +kernel
theorem dX1_line_16 : decode cX1_line 16 = .ok (.iconst 0, 1) := by decide +kernel
theorem dX1_line_17 : decode cX1_line 17 = .ok (.istore_n 3, 1) := by decide +kernel
theorem dX1_line_18 : decode cX1_line 18 = .ok (.iload_n 3, 1) := by decide +kernel
theorem dX1_line_19 : decode cX1_line 19 = .ok (.ifCond .eq 7, 3) := by decide +kernel
theorem dX1_line_22 : decode cX1_line 22 = .ok (.iconst 0, 1) := by decide +kernel
theorem dX1_line_23 : decode cX1_line 23 = .ok (.goto 15, 3) := by decide +kernel
theorem dX1_line_26 : decode cX1_line 26 = .ok (.aload_n 0, 1) := by decide +kernel
theorem dX1_line_27 : decode cX1_line 27 = .ok (.getfield 20, 3) := by decide +kernel
theorem dX1_line_30 : decode cX1_line 30 = .ok (.iload_n 1, 1) := by decide +kernel
theorem dX1_line_31 : decode cX1_line 31 = .ok (.iload_n 2, 1) := by decide +kernel
theorem dX1_line_32 : decode cX1_line 32 = .ok (.invokestatic 31, 3) := by decide +kernel
theorem dX1_line_35 : decode cX1_line 35 = .ok (.invokevirtual 35, 3) := by decide +kernel
theorem dX1_line_38 : decode cX1_line 38 = .ok (.ireturn, 1) := by decide +kernel
theorem dX1_origin_0 : decode cX1_origin 0 = .ok (.iload_n 0, 1) := by decide +kernel
theorem dX1_origin_1 : decode cX1_origin 1 = .ok (.iload_n 1, 1) := by decide +kernel
theorem dX1_origin_2 : decode cX1_origin 2 = .ok (.invokestatic 46, 3) := by decide +kernel
theorem dX1_origin_5 : decode cX1_origin 5 = .ok (.istore_n 2, 1) := by decide +kernel
theorem dX1_origin_6 : decode cX1_origin 6 = .ok (.iload_n 0, 1) := by decide +kernel
theorem dX1_origin_7 : decode cX1_origin 7 = .ok (.iconst 4, 1) := by decide +kernel
theorem dX1_origin_8 : decode cX1_origin 8 = .ok (.if_icmp .lt 11, 3) := by decide +kernel
theorem dX1_origin_11 : decode cX1_origin 11 = .ok (.iconst 4, 1) := by decide +kernel
theorem dX1_origin_12 : decode cX1_origin 12 = .ok (.iload_n 2, 1) := by decide +kernel
theorem dX1_origin_13 : decode cX1_origin 13 = .ok (.isub, 1) := by decide +kernel
theorem dX1_origin_14 : decode cX1_origin 14 = .ok (.iconst 3, 1) := by decide +kernel
theorem dX1_origin_15 : decode cX1_origin 15 = .ok (.iand, 1) := by decide +kernel
theorem dX1_origin_16 : decode cX1_origin 16 = .ok (.goto 4, 3) := by decide +kernel
theorem dX1_origin_19 : decode cX1_origin 19 = .ok (.iload_n 2, 1) := by decide +kernel
theorem dX1_origin_20 : decode cX1_origin 20 = .ok (.ireturn, 1) := by decide +kernel
theorem dX1_unturned_0 : decode cX1_unturned 0 = .ok (.iload_n 1, 1) := by decide +kernel
theorem dX1_unturned_1 : decode cX1_unturned 1 = .ok (.iload_n 0, 1) := by decide +kernel
theorem dX1_unturned_2 : decode cX1_unturned 2 = .ok (.isub, 1) := by decide +kernel
theorem dX1_unturned_3 : decode cX1_unturned 3 = .ok (.iconst 3, 1) := by decide +kernel
theorem dX1_unturned_4 : decode cX1_unturned 4 = .ok (.iand, 1) := by decide +kernel
theorem dX1_unturned_5 : decode cX1_unturned 5 = .ok (.ireturn, 1) := by decide +kernel
theorem dX1_isReversed_0 : decode cX1_isReversed 0 = .ok (.iload_n 0, 1) := by decide +kernel
theorem dX1_isReversed_1 : decode cX1_isReversed 1 = .ok (.iload_n 1, 1) := by decide +kernel
theorem dX1_isReversed_2 : decode cX1_isReversed 2 = .ok (.invokestatic 46, 3) := by decide +kernel
theorem dX1_isReversed_5 : decode cX1_isReversed 5 = .ok (.istore_n 2, 1) := by decide +kernel
theorem dX1_isReversed_6 : decode cX1_isReversed 6 = .ok (.iload_n 2, 1) := by decide +kernel
theorem dX1_isReversed_7 : decode cX1_isReversed 7 = .ok (.invokestatic 49, 3) := by decide +kernel
theorem dX1_isReversed_10 : decode cX1_isReversed 10 = .ok (.iload_n 1, 1) := by decide +kernel
theorem dX1_isReversed_11 : decode cX1_isReversed 11 = .ok (.invokestatic 49, 3) := by decide +kernel
theorem dX1_isReversed_14 : decode cX1_isReversed 14 = .ok (.if_icmp .eq 7, 3) := by decide +kernel
theorem dX1_isReversed_17 : decode cX1_isReversed 17 = .ok (.iconst 1, 1) := by decide +kernel
theorem dX1_isReversed_18 : decode cX1_isReversed 18 = .ok (.goto 4, 3) := by decide +kernel
theorem dX1_isReversed_21 : decode cX1_isReversed 21 = .ok (.iconst 0, 1) := by decide +kernel
theorem dX1_isReversed_22 : decode cX1_isReversed 22 = .ok (.istore_n 3, 1) := by decide +kernel
theorem dX1_isReversed_23 : decode cX1_isReversed 23 = .ok (.iload_n 0, 1) := by decide +kernel
theorem dX1_isReversed_24 : decode cX1_isReversed 24 = .ok (.iconst 4, 1) := by decide +kernel
theorem dX1_isReversed_25 : decode cX1_isReversed 25 = .ok (.if_icmp .lt 16, 3) := by decide +kernel
theorem dX1_isReversed_28 : decode cX1_isReversed 28 = .ok (.iload_n 2, 1) := by decide +kernel
theorem dX1_isReversed_29 : decode cX1_isReversed 29 = .ok (.ifCond .eq 8, 3) := by decide +kernel
theorem dX1_isReversed_32 : decode cX1_isReversed 32 = .ok (.iload_n 2, 1) := by decide +kernel
theorem dX1_isReversed_33 : decode cX1_isReversed 33 = .ok (.iconst 2, 1) := by decide +kernel
theorem dX1_isReversed_34 : decode cX1_isReversed 34 = .ok (.if_icmp .ne 7, 3) := by decide +kernel
theorem dX1_isReversed_37 : decode cX1_isReversed 37 = .ok (.iconst 1, 1) := by decide +kernel
theorem dX1_isReversed_38 : decode cX1_isReversed 38 = .ok (.goto 4, 3) := by decide +kernel
theorem dX1_isReversed_41 : decode cX1_isReversed 41 = .ok (.iconst 0, 1) := by decide +kernel
theorem dX1_isReversed_42 : decode cX1_isReversed 42 = .ok (.istore 4, 2) := by decide +kernel
theorem dX1_isReversed_44 : decode cX1_isReversed 44 = .ok (.iload_n 3, 1) := by decide +kernel
theorem dX1_isReversed_45 : decode cX1_isReversed 45 = .ok (.iload 4, 2) := by decide +kernel
theorem dX1_isReversed_47 : decode cX1_isReversed 47 = .ok (.if_icmp .eq 7, 3) := by decide +kernel
theorem dX1_isReversed_50 : decode cX1_isReversed 50 = .ok (.iconst 1, 1) := by decide +kernel
theorem dX1_isReversed_51 : decode cX1_isReversed 51 = .ok (.goto 4, 3) := by decide +kernel
theorem dX1_isReversed_54 : decode cX1_isReversed 54 = .ok (.iconst 0, 1) := by decide +kernel
theorem dX1_isReversed_55 : decode cX1_isReversed 55 = .ok (.ireturn, 1) := by decide +kernel
theorem dX1_isToldClockwise_0 : decode cX1_isToldClockwise 0 = .ok (.iload_n 0, 1) := by decide +kernel
theorem dX1_isToldClockwise_1 : decode cX1_isToldClockwise 1 = .ok (.ifCond .eq 8, 3) := by decide +kernel
theorem dX1_isToldClockwise_4 : decode cX1_isToldClockwise 4 = .ok (.iload_n 0, 1) := by decide +kernel
theorem dX1_isToldClockwise_5 : decode cX1_isToldClockwise 5 = .ok (.iconst 1, 1) := by decide +kernel
theorem dX1_isToldClockwise_6 : decode cX1_isToldClockwise 6 = .ok (.if_icmp .ne 7, 3) := by decide +kernel
theorem dX1_isToldClockwise_9 : decode cX1_isToldClockwise 9 = .ok (.iconst 1, 1) := by decide +kernel
theorem dX1_isToldClockwise_10 : decode cX1_isToldClockwise 10 = .ok (.goto 4, 3) := by decide +kernel
theorem dX1_isToldClockwise_13 : decode cX1_isToldClockwise 13 = .ok (.iconst 0, 1) := by decide +kernel
theorem dX1_isToldClockwise_14 : decode cX1_isToldClockwise 14 = .ok (.ireturn, 1) := by decide +kernel
theorem dX1_reverse_0 : decode cX1_reverse 0 = .ok (.iload_n 0, 1) := by decide +kernel
theorem dX1_reverse_1 : decode cX1_reverse 1 = .ok (.iconst (-1), 1) := by decide +kernel
theorem dX1_reverse_2 : decode cX1_reverse 2 = .ok (.if_icmp .ne 5, 3) := by decide +kernel
theorem dX1_reverse_5 : decode cX1_reverse 5 = .ok (.iconst (-1), 1) := by decide +kernel
theorem dX1_reverse_6 : decode cX1_reverse 6 = .ok (.ireturn, 1) := by decide +kernel
theorem dX1_reverse_7 : decode cX1_reverse 7 = .ok (.iload_n 0, 1) := by decide +kernel
theorem dX1_reverse_8 : decode cX1_reverse 8 = .ok (.bipush 10, 2) := by decide +kernel
theorem dX1_reverse_10 : decode cX1_reverse 10 = .ok (.irem, 1) := by decide +kernel
theorem dX1_reverse_11 : decode cX1_reverse 11 = .ok (.bipush 100, 2) := by decide +kernel
theorem dX1_reverse_13 : decode cX1_reverse 13 = .ok (.imul, 1) := by decide +kernel
theorem dX1_reverse_14 : decode cX1_reverse 14 = .ok (.iload_n 0, 1) := by decide +kernel
theorem dX1_reverse_15 : decode cX1_reverse 15 = .ok (.bipush 10, 2) := by decide +kernel
theorem dX1_reverse_17 : decode cX1_reverse 17 = .ok (.idiv, 1) := by decide +kernel
theorem dX1_reverse_18 : decode cX1_reverse 18 = .ok (.bipush 10, 2) := by decide +kernel
theorem dX1_reverse_20 : decode cX1_reverse 20 = .ok (.irem, 1) := by decide +kernel
theorem dX1_reverse_21 : decode cX1_reverse 21 = .ok (.bipush 10, 2) := by decide +kernel
theorem dX1_reverse_23 : decode cX1_reverse 23 = .ok (.imul, 1) := by decide +kernel
theorem dX1_reverse_24 : decode cX1_reverse 24 = .ok (.iadd, 1) := by decide +kernel
theorem dX1_reverse_25 : decode cX1_reverse 25 = .ok (.iload_n 0, 1) := by decide +kernel
theorem dX1_reverse_26 : decode cX1_reverse 26 = .ok (.bipush 100, 2) := by decide +kernel
theorem dX1_reverse_28 : decode cX1_reverse 28 = .ok (.idiv, 1) := by decide +kernel
theorem dX1_reverse_29 : decode cX1_reverse 29 = .ok (.iadd, 1) := by decide +kernel
theorem dX1_reverse_30 : decode cX1_reverse 30 = .ok (.ireturn, 1) := by decide +kernel
theorem dX2_init_0 : decode cX2_init 0 = .ok (.aload_n 0, 1) := by decide +kernel
theorem dX2_init_1 : decode cX2_init 1 = .ok (.invokespecial 3, 3) := by decide +kernel
theorem dX2_init_4 : decode cX2_init 4 = .ok (.aload_n 0, 1) := by decide +kernel
theorem dX2_init_5 : decode cX2_init 5 = .ok (.new 9, 3) := by decide +kernel
theorem dX2_init_8 : decode cX2_init 8 = .ok (.dup, 1) := by decide +kernel
theorem dX2_init_9 : decode cX2_init 9 = .ok (.bipush 12, 2) := by decide +kernel
theorem dX2_init_11 : decode cX2_init 11 = .ok (.invokespecial 11, 3) := by decide +kernel
theorem dX2_init_14 : decode cX2_init 14 = .ok (.putfield 14, 3) := by decide +kernel
theorem dX2_init_17 : decode cX2_init 17 = .ok (.return_, 1) := by decide +kernel
theorem dX2_gather_0 : decode cX2_gather 0 = .ok (.aload_n 0, 1) := by decide +kernel
theorem dX2_gather_1 : decode cX2_gather 1 = .ok (.aload_n 1, 1) := by decide +kernel
theorem dX2_gather_2 : decode cX2_gather 2 = .ok (.getfield 20, 3) := by decide +kernel
theorem dX2_gather_5 : decode cX2_gather 5 = .ok (.invokevirtual 26, 3) := by decide +kernel
theorem dX2_gather_8 : decode cX2_gather 8 = .ok (.putfield 32, 3) := by decide +kernel
theorem dX2_gather_11 : decode cX2_gather 11 = .ok (.iconst 0, 1) := by decide +kernel
theorem dX2_gather_12 : decode cX2_gather 12 = .ok (.istore_n 2, 1) := by decide +kernel
theorem dX2_gather_13 : decode cX2_gather 13 = .ok (.iload_n 2, 1) := by decide +kernel
theorem dX2_gather_14 : decode cX2_gather 14 = .ok (.aload_n 0, 1) := by decide +kernel
theorem dX2_gather_15 : decode cX2_gather 15 = .ok (.getfield 32, 3) := by decide +kernel
theorem dX2_gather_18 : decode cX2_gather 18 = .ok (.if_icmp .ge 33, 3) := by decide +kernel
theorem dX2_gather_21 : decode cX2_gather 21 = .ok (.aload_n 0, 1) := by decide +kernel
theorem dX2_gather_22 : decode cX2_gather 22 = .ok (.getfield 14, 3) := by decide +kernel
theorem dX2_gather_25 : decode cX2_gather 25 = .ok (.iload_n 2, 1) := by decide +kernel
theorem dX2_gather_26 : decode cX2_gather 26 = .ok (.aload_n 1, 1) := by decide +kernel
theorem dX2_gather_27 : decode cX2_gather 27 = .ok (.getfield 35, 3) := by decide +kernel
theorem dX2_gather_30 : decode cX2_gather 30 = .ok (.iload_n 2, 1) := by decide +kernel
theorem dX2_gather_31 : decode cX2_gather 31 = .ok (.invokevirtual 39, 3) := by decide +kernel
theorem dX2_gather_34 : decode cX2_gather 34 = .ok (.ifCond .eq 7, 3) := by decide +kernel
theorem dX2_gather_37 : decode cX2_gather 37 = .ok (.iload_n 2, 1) := by decide +kernel
theorem dX2_gather_38 : decode cX2_gather 38 = .ok (.goto 4, 3) := by decide +kernel
theorem dX2_gather_41 : decode cX2_gather 41 = .ok (.iconst (-1), 1) := by decide +kernel
theorem dX2_gather_42 : decode cX2_gather 42 = .ok (.invokevirtual 45, 3) := by decide +kernel
theorem dX2_gather_45 : decode cX2_gather 45 = .ok (.iinc 2 1, 3) := by decide +kernel
theorem dX2_gather_48 : decode cX2_gather 48 = .ok (.goto (-35), 3) := by decide +kernel
theorem dX2_gather_51 : decode cX2_gather 51 = .ok (.iconst 0, 1) := by decide +kernel
theorem dX2_gather_52 : decode cX2_gather 52 = .ok (.istore_n 2, 1) := by decide +kernel
theorem dX2_gather_53 : decode cX2_gather 53 = .ok (.iload_n 2, 1) := by decide +kernel
theorem dX2_gather_54 : decode cX2_gather 54 = .ok (.aload_n 0, 1) := by decide +kernel
theorem dX2_gather_55 : decode cX2_gather 55 = .ok (.getfield 32, 3) := by decide +kernel
theorem dX2_gather_58 : decode cX2_gather 58 = .ok (.if_icmp .ge 39, 3) := by decide +kernel
theorem dX2_gather_61 : decode cX2_gather 61 = .ok (.iconst 0, 1) := by decide +kernel
theorem dX2_gather_62 : decode cX2_gather 62 = .ok (.istore_n 3, 1) := by decide +kernel
theorem dX2_gather_63 : decode cX2_gather 63 = .ok (.iload_n 3, 1) := by decide +kernel
theorem dX2_gather_64 : decode cX2_gather 64 = .ok (.aload_n 0, 1) := by decide +kernel
theorem dX2_gather_65 : decode cX2_gather 65 = .ok (.getfield 32, 3) := by decide +kernel
theorem dX2_gather_68 : decode cX2_gather 68 = .ok (.if_icmp .ge 23, 3) := by decide +kernel
theorem dX2_gather_71 : decode cX2_gather 71 = .ok (.aload_n 0, 1) := by decide +kernel
theorem dX2_gather_72 : decode cX2_gather 72 = .ok (.aload_n 1, 1) := by decide +kernel
theorem dX2_gather_73 : decode cX2_gather 73 = .ok (.iload_n 3, 1) := by decide +kernel
theorem dX2_gather_74 : decode cX2_gather 74 = .ok (.iconst 1, 1) := by decide +kernel
theorem dX2_gather_75 : decode cX2_gather 75 = .ok (.invokevirtual 49, 3) := by decide +kernel
theorem dX2_gather_78 : decode cX2_gather 78 = .ok (.aload_n 0, 1) := by decide +kernel
theorem dX2_gather_79 : decode cX2_gather 79 = .ok (.aload_n 1, 1) := by decide +kernel
theorem dX2_gather_80 : decode cX2_gather 80 = .ok (.iload_n 3, 1) := by decide +kernel
theorem dX2_gather_81 : decode cX2_gather 81 = .ok (.iconst 2, 1) := by decide +kernel
theorem dX2_gather_82 : decode cX2_gather 82 = .ok (.invokevirtual 49, 3) := by decide +kernel
theorem dX2_gather_85 : decode cX2_gather 85 = .ok (.iinc 3 1, 3) := by decide +kernel
theorem dX2_gather_88 : decode cX2_gather 88 = .ok (.goto (-25), 3) := by decide +kernel
theorem dX2_gather_91 : decode cX2_gather 91 = .ok (.iinc 2 1, 3) := by decide +kernel
theorem dX2_gather_94 : decode cX2_gather 94 = .ok (.goto (-41), 3) := by decide +kernel
theorem dX2_gather_97 : decode cX2_gather 97 = .ok (.return_, 1) := by decide +kernel
theorem dX2_join_0 : decode cX2_join 0 = .ok (.aload_n 1, 1) := by decide +kernel
theorem dX2_join_1 : decode cX2_join 1 = .ok (.iload_n 2, 1) := by decide +kernel
theorem dX2_join_2 : decode cX2_join 2 = .ok (.iload_n 3, 1) := by decide +kernel
theorem dX2_join_3 : decode cX2_join 3 = .ok (.invokevirtual 53, 3) := by decide +kernel
theorem dX2_join_6 : decode cX2_join 6 = .ok (.ifCond .eq 54, 3) := by decide +kernel
theorem dX2_join_9 : decode cX2_join 9 = .ok (.aload_n 1, 1) := by decide +kernel
theorem dX2_join_10 : decode cX2_join 10 = .ok (.iload_n 2, 1) := by decide +kernel
theorem dX2_join_11 : decode cX2_join 11 = .ok (.iload_n 3, 1) := by decide +kernel
theorem dX2_join_12 : decode cX2_join 12 = .ok (.invokevirtual 57, 3) := by decide +kernel
theorem dX2_join_15 : decode cX2_join 15 = .ok (.istore 4, 2) := by decide +kernel
theorem dX2_join_17 : decode cX2_join 17 = .ok (.aload_n 0, 1) := by decide +kernel
theorem dX2_join_18 : decode cX2_join 18 = .ok (.getfield 14, 3) := by decide +kernel
theorem dX2_join_21 : decode cX2_join 21 = .ok (.iload_n 2, 1) := by decide +kernel
theorem dX2_join_22 : decode cX2_join 22 = .ok (.invokevirtual 61, 3) := by decide +kernel
theorem dX2_join_25 : decode cX2_join 25 = .ok (.aload_n 0, 1) := by decide +kernel
theorem dX2_join_26 : decode cX2_join 26 = .ok (.getfield 14, 3) := by decide +kernel
theorem dX2_join_29 : decode cX2_join 29 = .ok (.iload 4, 2) := by decide +kernel
theorem dX2_join_31 : decode cX2_join 31 = .ok (.invokevirtual 61, 3) := by decide +kernel
theorem dX2_join_34 : decode cX2_join 34 = .ok (.invokestatic 65, 3) := by decide +kernel
theorem dX2_join_37 : decode cX2_join 37 = .ok (.istore 5, 2) := by decide +kernel
theorem dX2_join_39 : decode cX2_join 39 = .ok (.aload_n 0, 1) := by decide +kernel
theorem dX2_join_40 : decode cX2_join 40 = .ok (.getfield 14, 3) := by decide +kernel
theorem dX2_join_43 : decode cX2_join 43 = .ok (.iload_n 2, 1) := by decide +kernel
theorem dX2_join_44 : decode cX2_join 44 = .ok (.iload 5, 2) := by decide +kernel
theorem dX2_join_46 : decode cX2_join 46 = .ok (.invokevirtual 45, 3) := by decide +kernel
theorem dX2_join_49 : decode cX2_join 49 = .ok (.aload_n 0, 1) := by decide +kernel
theorem dX2_join_50 : decode cX2_join 50 = .ok (.getfield 14, 3) := by decide +kernel
theorem dX2_join_53 : decode cX2_join 53 = .ok (.iload 4, 2) := by decide +kernel
theorem dX2_join_55 : decode cX2_join 55 = .ok (.iload 5, 2) := by decide +kernel
theorem dX2_join_57 : decode cX2_join 57 = .ok (.invokevirtual 45, 3) := by decide +kernel
theorem dX2_join_60 : decode cX2_join 60 = .ok (.return_, 1) := by decide +kernel
theorem dX2_size_0 : decode cX2_size 0 = .ok (.aload_n 0, 1) := by decide +kernel
theorem dX2_size_1 : decode cX2_size 1 = .ok (.aload_n 0, 1) := by decide +kernel
theorem dX2_size_2 : decode cX2_size 2 = .ok (.getfield 32, 3) := by decide +kernel
theorem dX2_size_5 : decode cX2_size 5 = .ok (.invokevirtual 70, 3) := by decide +kernel
theorem dX2_size_8 : decode cX2_size 8 = .ok (.ireturn, 1) := by decide +kernel
theorem dX2_groupOf_0 : decode cX2_groupOf 0 = .ok (.aload_n 0, 1) := by decide +kernel
theorem dX2_groupOf_1 : decode cX2_groupOf 1 = .ok (.aload_n 0, 1) := by decide +kernel
theorem dX2_groupOf_2 : decode cX2_groupOf 2 = .ok (.getfield 14, 3) := by decide +kernel
theorem dX2_groupOf_5 : decode cX2_groupOf 5 = .ok (.iload_n 1, 1) := by decide +kernel
theorem dX2_groupOf_6 : decode cX2_groupOf 6 = .ok (.invokevirtual 61, 3) := by decide +kernel
theorem dX2_groupOf_9 : decode cX2_groupOf 9 = .ok (.invokevirtual 70, 3) := by decide +kernel
theorem dX2_groupOf_12 : decode cX2_groupOf 12 = .ok (.ireturn, 1) := by decide +kernel
theorem dX2_countBelow_0 : decode cX2_countBelow 0 = .ok (.iconst 0, 1) := by decide +kernel
theorem dX2_countBelow_1 : decode cX2_countBelow 1 = .ok (.istore_n 2, 1) := by decide +kernel
theorem dX2_countBelow_2 : decode cX2_countBelow 2 = .ok (.iconst 0, 1) := by decide +kernel
theorem dX2_countBelow_3 : decode cX2_countBelow 3 = .ok (.istore_n 3, 1) := by decide +kernel
theorem dX2_countBelow_4 : decode cX2_countBelow 4 = .ok (.iload_n 3, 1) := by decide +kernel
theorem dX2_countBelow_5 : decode cX2_countBelow 5 = .ok (.iload_n 1, 1) := by decide +kernel
theorem dX2_countBelow_6 : decode cX2_countBelow 6 = .ok (.if_icmp .ge 32, 3) := by decide +kernel
theorem dX2_countBelow_9 : decode cX2_countBelow 9 = .ok (.iload_n 3, 1) := by decide +kernel
theorem dX2_countBelow_10 : decode cX2_countBelow 10 = .ok (.aload_n 0, 1) := by decide +kernel
theorem dX2_countBelow_11 : decode cX2_countBelow 11 = .ok (.getfield 32, 3) := by decide +kernel
theorem dX2_countBelow_14 : decode cX2_countBelow 14 = .ok (.if_icmp .ge 24, 3) := by decide +kernel
theorem dX2_countBelow_17 : decode cX2_countBelow 17 = .ok (.aload_n 0, 1) := by decide +kernel
theorem dX2_countBelow_18 : decode cX2_countBelow 18 = .ok (.getfield 14, 3) := by decide +kernel
theorem dX2_countBelow_21 : decode cX2_countBelow 21 = .ok (.iload_n 3, 1) := by decide +kernel
theorem dX2_countBelow_22 : decode cX2_countBelow 22 = .ok (.invokevirtual 61, 3) := by decide +kernel
theorem dX2_countBelow_25 : decode cX2_countBelow 25 = .ok (.iload_n 3, 1) := by decide +kernel
theorem dX2_countBelow_26 : decode cX2_countBelow 26 = .ok (.if_icmp .ne 6, 3) := by decide +kernel
theorem dX2_countBelow_29 : decode cX2_countBelow 29 = .ok (.iinc 2 1, 3) := by decide +kernel
theorem dX2_countBelow_32 : decode cX2_countBelow 32 = .ok (.iinc 3 1, 3) := by decide +kernel
theorem dX2_countBelow_35 : decode cX2_countBelow 35 = .ok (.goto (-31), 3) := by decide +kernel
theorem dX2_countBelow_38 : decode cX2_countBelow 38 = .ok (.iload_n 2, 1) := by decide +kernel
theorem dX2_countBelow_39 : decode cX2_countBelow 39 = .ok (.ireturn, 1) := by decide +kernel
theorem dX2_scrapOf_0 : decode cX2_scrapOf 0 = .ok (.iconst 0, 1) := by decide +kernel
theorem dX2_scrapOf_1 : decode cX2_scrapOf 1 = .ok (.istore_n 3, 1) := by decide +kernel
theorem dX2_scrapOf_2 : decode cX2_scrapOf 2 = .ok (.iconst 0, 1) := by decide +kernel
theorem dX2_scrapOf_3 : decode cX2_scrapOf 3 = .ok (.istore 4, 2) := by decide +kernel
theorem dX2_scrapOf_5 : decode cX2_scrapOf 5 = .ok (.iload 4, 2) := by decide +kernel
theorem dX2_scrapOf_7 : decode cX2_scrapOf 7 = .ok (.aload_n 0, 1) := by decide +kernel
theorem dX2_scrapOf_8 : decode cX2_scrapOf 8 = .ok (.getfield 32, 3) := by decide +kernel
theorem dX2_scrapOf_11 : decode cX2_scrapOf 11 = .ok (.if_icmp .ge 43, 3) := by decide +kernel
theorem dX2_scrapOf_14 : decode cX2_scrapOf 14 = .ok (.aload_n 0, 1) := by decide +kernel
theorem dX2_scrapOf_15 : decode cX2_scrapOf 15 = .ok (.getfield 14, 3) := by decide +kernel
theorem dX2_scrapOf_18 : decode cX2_scrapOf 18 = .ok (.iload 4, 2) := by decide +kernel
theorem dX2_scrapOf_20 : decode cX2_scrapOf 20 = .ok (.invokevirtual 61, 3) := by decide +kernel
theorem dX2_scrapOf_23 : decode cX2_scrapOf 23 = .ok (.iconst (-1), 1) := by decide +kernel
theorem dX2_scrapOf_24 : decode cX2_scrapOf 24 = .ok (.if_icmp .eq 24, 3) := by decide +kernel
theorem dX2_scrapOf_27 : decode cX2_scrapOf 27 = .ok (.aload_n 0, 1) := by decide +kernel
theorem dX2_scrapOf_28 : decode cX2_scrapOf 28 = .ok (.iload 4, 2) := by decide +kernel
theorem dX2_scrapOf_30 : decode cX2_scrapOf 30 = .ok (.invokevirtual 73, 3) := by decide +kernel
theorem dX2_scrapOf_33 : decode cX2_scrapOf 33 = .ok (.iload_n 1, 1) := by decide +kernel
theorem dX2_scrapOf_34 : decode cX2_scrapOf 34 = .ok (.if_icmp .ne 14, 3) := by decide +kernel
theorem dX2_scrapOf_37 : decode cX2_scrapOf 37 = .ok (.iload_n 3, 1) := by decide +kernel
theorem dX2_scrapOf_38 : decode cX2_scrapOf 38 = .ok (.iload_n 2, 1) := by decide +kernel
theorem dX2_scrapOf_39 : decode cX2_scrapOf 39 = .ok (.if_icmp .ne 6, 3) := by decide +kernel
theorem dX2_scrapOf_42 : decode cX2_scrapOf 42 = .ok (.iload 4, 2) := by decide +kernel
theorem dX2_scrapOf_44 : decode cX2_scrapOf 44 = .ok (.ireturn, 1) := by decide +kernel
theorem dX2_scrapOf_45 : decode cX2_scrapOf 45 = .ok (.iinc 3 1, 3) := by decide +kernel
theorem dX2_scrapOf_48 : decode cX2_scrapOf 48 = .ok (.iinc 4 1, 3) := by decide +kernel
theorem dX2_scrapOf_51 : decode cX2_scrapOf 51 = .ok (.goto (-46), 3) := by decide +kernel
theorem dX2_scrapOf_54 : decode cX2_scrapOf 54 = .ok (.iconst (-1), 1) := by decide +kernel
theorem dX2_scrapOf_55 : decode cX2_scrapOf 55 = .ok (.ireturn, 1) := by decide +kernel
theorem dX3_init_0 : decode cX3_init 0 = .ok (.aload_n 0, 1) := by decide +kernel
theorem dX3_init_1 : decode cX3_init 1 = .ok (.invokespecial 3, 3) := by decide +kernel
theorem dX3_init_4 : decode cX3_init 4 = .ok (.aload_n 0, 1) := by decide +kernel
theorem dX3_init_5 : decode cX3_init 5 = .ok (.iconst 5, 1) := by decide +kernel
theorem dX3_init_6 : decode cX3_init 6 = .ok (.anewarray 9, 3) := by decide +kernel
theorem dX3_init_9 : decode cX3_init 9 = .ok (.putfield 11, 3) := by decide +kernel
theorem dX3_init_12 : decode cX3_init 12 = .ok (.iconst 0, 1) := by decide +kernel
theorem dX3_init_13 : decode cX3_init 13 = .ok (.istore_n 1, 1) := by decide +kernel
theorem dX3_init_14 : decode cX3_init 14 = .ok (.iload_n 1, 1) := by decide +kernel
theorem dX3_init_15 : decode cX3_init 15 = .ok (.aload_n 0, 1) := by decide +kernel
theorem dX3_init_16 : decode cX3_init 16 = .ok (.getfield 11, 3) := by decide +kernel
theorem dX3_init_19 : decode cX3_init 19 = .ok (.arraylength, 1) := by decide +kernel
theorem dX3_init_20 : decode cX3_init 20 = .ok (.if_icmp .ge 22, 3) := by decide +kernel
theorem dX3_init_23 : decode cX3_init 23 = .ok (.aload_n 0, 1) := by decide +kernel
theorem dX3_init_24 : decode cX3_init 24 = .ok (.getfield 11, 3) := by decide +kernel
theorem dX3_init_27 : decode cX3_init 27 = .ok (.iload_n 1, 1) := by decide +kernel
theorem dX3_init_28 : decode cX3_init 28 = .ok (.new 9, 3) := by decide +kernel
theorem dX3_init_31 : decode cX3_init 31 = .ok (.dup, 1) := by decide +kernel
theorem dX3_init_32 : decode cX3_init 32 = .ok (.invokespecial 17, 3) := by decide +kernel
theorem dX3_init_35 : decode cX3_init 35 = .ok (.aastore, 1) := by decide +kernel
theorem dX3_init_36 : decode cX3_init 36 = .ok (.iinc 1 1, 3) := by decide +kernel
theorem dX3_init_39 : decode cX3_init 39 = .ok (.goto (-25), 3) := by decide +kernel
theorem dX3_init_42 : decode cX3_init 42 = .ok (.return_, 1) := by decide +kernel
theorem dX3_size_0 : decode cX3_size 0 = .ok (.aload_n 0, 1) := by decide +kernel
theorem dX3_size_1 : decode cX3_size 1 = .ok (.getfield 18, 3) := by decide +kernel
theorem dX3_size_4 : decode cX3_size 4 = .ok (.ireturn, 1) := by decide +kernel
theorem dX3_keep_0 : decode cX3_keep 0 = .ok (.aload_n 0, 1) := by decide +kernel
theorem dX3_keep_1 : decode cX3_keep 1 = .ok (.getfield 18, 3) := by decide +kernel
theorem dX3_keep_4 : decode cX3_keep 4 = .ok (.iconst 5, 1) := by decide +kernel
theorem dX3_keep_5 : decode cX3_keep 5 = .ok (.if_icmp .lt 25, 3) := by decide +kernel
theorem dX3_keep_8 : decode cX3_keep 8 = .ok (.aload_n 0, 1) := by decide +kernel
theorem dX3_keep_9 : decode cX3_keep 9 = .ok (.aload_n 0, 1) := by decide +kernel
theorem dX3_keep_10 : decode cX3_keep 10 = .ok (.getfield 22, 3) := by decide +kernel
theorem dX3_keep_13 : decode cX3_keep 13 = .ok (.iconst 1, 1) := by decide +kernel
theorem dX3_keep_14 : decode cX3_keep 14 = .ok (.iadd, 1) := by decide +kernel
theorem dX3_keep_15 : decode cX3_keep 15 = .ok (.iconst 5, 1) := by decide +kernel
theorem dX3_keep_16 : decode cX3_keep 16 = .ok (.irem, 1) := by decide +kernel
theorem dX3_keep_17 : decode cX3_keep 17 = .ok (.putfield 22, 3) := by decide +kernel
theorem dX3_keep_20 : decode cX3_keep 20 = .ok (.aload_n 0, 1) := by decide +kernel
theorem dX3_keep_21 : decode cX3_keep 21 = .ok (.dup, 1) := by decide +kernel
theorem dX3_keep_22 : decode cX3_keep 22 = .ok (.getfield 18, 3) := by decide +kernel
theorem dX3_keep_25 : decode cX3_keep 25 = .ok (.iconst 1, 1) := by decide +kernel
theorem dX3_keep_26 : decode cX3_keep 26 = .ok (.isub, 1) := by decide +kernel
theorem dX3_keep_27 : decode cX3_keep 27 = .ok (.putfield 18, 3) := by decide +kernel
theorem dX3_keep_30 : decode cX3_keep 30 = .ok (.aload_n 0, 1) := by decide +kernel
theorem dX3_keep_31 : decode cX3_keep 31 = .ok (.aload_n 0, 1) := by decide +kernel
theorem dX3_keep_32 : decode cX3_keep 32 = .ok (.getfield 18, 3) := by decide +kernel
theorem dX3_keep_35 : decode cX3_keep 35 = .ok (.invokevirtual 25, 3) := by decide +kernel
theorem dX3_keep_38 : decode cX3_keep 38 = .ok (.astore_n 2, 1) := by decide +kernel
theorem dX3_keep_39 : decode cX3_keep 39 = .ok (.aload_n 2, 1) := by decide +kernel
theorem dX3_keep_40 : decode cX3_keep 40 = .ok (.ifnull 18, 3) := by decide +kernel
theorem dX3_keep_43 : decode cX3_keep 43 = .ok (.aload_n 2, 1) := by decide +kernel
theorem dX3_keep_44 : decode cX3_keep 44 = .ok (.aload_n 1, 1) := by decide +kernel
theorem dX3_keep_45 : decode cX3_keep 45 = .ok (.invokevirtual 29, 3) := by decide +kernel
theorem dX3_keep_48 : decode cX3_keep 48 = .ok (.aload_n 0, 1) := by decide +kernel
theorem dX3_keep_49 : decode cX3_keep 49 = .ok (.dup, 1) := by decide +kernel
theorem dX3_keep_50 : decode cX3_keep 50 = .ok (.getfield 18, 3) := by decide +kernel
theorem dX3_keep_53 : decode cX3_keep 53 = .ok (.iconst 1, 1) := by decide +kernel
theorem dX3_keep_54 : decode cX3_keep 54 = .ok (.iadd, 1) := by decide +kernel
theorem dX3_keep_55 : decode cX3_keep 55 = .ok (.putfield 18, 3) := by decide +kernel
theorem dX3_keep_58 : decode cX3_keep 58 = .ok (.return_, 1) := by decide +kernel
theorem dX3_restore_0 : decode cX3_restore 0 = .ok (.aload_n 0, 1) := by decide +kernel
theorem dX3_restore_1 : decode cX3_restore 1 = .ok (.aload_n 0, 1) := by decide +kernel
theorem dX3_restore_2 : decode cX3_restore 2 = .ok (.getfield 18, 3) := by decide +kernel
theorem dX3_restore_5 : decode cX3_restore 5 = .ok (.iconst 1, 1) := by decide +kernel
theorem dX3_restore_6 : decode cX3_restore 6 = .ok (.isub, 1) := by decide +kernel
theorem dX3_restore_7 : decode cX3_restore 7 = .ok (.invokevirtual 25, 3) := by decide +kernel
theorem dX3_restore_10 : decode cX3_restore 10 = .ok (.astore_n 2, 1) := by decide +kernel
theorem dX3_restore_11 : decode cX3_restore 11 = .ok (.aload_n 2, 1) := by decide +kernel
theorem dX3_restore_12 : decode cX3_restore 12 = .ok (.ifnull 18, 3) := by decide +kernel
theorem dX3_restore_15 : decode cX3_restore 15 = .ok (.aload_n 1, 1) := by decide +kernel
theorem dX3_restore_16 : decode cX3_restore 16 = .ok (.aload_n 2, 1) := by decide +kernel
theorem dX3_restore_17 : decode cX3_restore 17 = .ok (.invokevirtual 29, 3) := by decide +kernel
theorem dX3_restore_20 : decode cX3_restore 20 = .ok (.aload_n 0, 1) := by decide +kernel
theorem dX3_restore_21 : decode cX3_restore 21 = .ok (.dup, 1) := by decide +kernel
theorem dX3_restore_22 : decode cX3_restore 22 = .ok (.getfield 18, 3) := by decide +kernel
theorem dX3_restore_25 : decode cX3_restore 25 = .ok (.iconst 1, 1) := by decide +kernel
theorem dX3_restore_26 : decode cX3_restore 26 = .ok (.isub, 1) := by decide +kernel
theorem dX3_restore_27 : decode cX3_restore 27 = .ok (.putfield 18, 3) := by decide +kernel
theorem dX3_restore_30 : decode cX3_restore 30 = .ok (.return_, 1) := by decide +kernel
theorem dX3_state_0 : decode cX3_state 0 = .ok (.aload_n 0, 1) := by decide +kernel
theorem dX3_state_1 : decode cX3_state 1 = .ok (.getfield 22, 3) := by decide +kernel
theorem dX3_state_4 : decode cX3_state 4 = .ok (.iload_n 1, 1) := by decide +kernel
theorem dX3_state_5 : decode cX3_state 5 = .ok (.iadd, 1) := by decide +kernel
theorem dX3_state_6 : decode cX3_state 6 = .ok (.iconst 5, 1) := by decide +kernel
theorem dX3_state_7 : decode cX3_state 7 = .ok (.irem, 1) := by decide +kernel
theorem dX3_state_8 : decode cX3_state 8 = .ok (.istore_n 2, 1) := by decide +kernel
