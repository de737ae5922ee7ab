theorem dX8_force_27 : decode cX8_force 27 = .ok (.aload_n 0, 1) := by decide +kernel
theorem dX8_force_28 : decode cX8_force 28 = .ok (.iload_n 1, 1) := by decide +kernel
theorem dX8_force_29 : decode cX8_force 29 = .ok (.iload_n 2, 1) := by decide +kernel
theorem dX8_force_30 : decode cX8_force 30 = .ok (.invokevirtual 177, 3) := by decide +kernel
theorem dX8_force_33 : decode cX8_force 33 = .ok (.ifCond .ne 7, 3) := by decide +kernel
theorem dX8_force_36 : decode cX8_force 36 = .ok (.sipush (-1002), 3) := by decide +kernel
theorem dX8_force_39 : decode cX8_force 39 = .ok (.ireturn, 1) := by decide +kernel
theorem dX8_force_40 : decode cX8_force 40 = .ok (.aload_n 0, 1) := by decide +kernel
theorem dX8_force_41 : decode cX8_force 41 = .ok (.getfield 22, 3) := by decide +kernel
theorem dX8_force_44 : decode cX8_force 44 = .ok (.aload_n 0, 1) := by decide +kernel
theorem dX8_force_45 : decode cX8_force 45 = .ok (.getfield 10, 3) := by decide +kernel
theorem dX8_force_48 : decode cX8_force 48 = .ok (.invokevirtual 55, 3) := by decide +kernel
theorem dX8_force_51 : decode cX8_force 51 = .ok (.aload_n 0, 1) := by decide +kernel
theorem dX8_force_52 : decode cX8_force 52 = .ok (.getfield 10, 3) := by decide +kernel
theorem dX8_force_55 : decode cX8_force 55 = .ok (.getfield 59, 3) := by decide +kernel
theorem dX8_force_58 : decode cX8_force 58 = .ok (.iload_n 1, 1) := by decide +kernel
theorem dX8_force_59 : decode cX8_force 59 = .ok (.iload_n 2, 1) := by decide +kernel
theorem dX8_force_60 : decode cX8_force 60 = .ok (.iload_n 3, 1) := by decide +kernel
theorem dX8_force_61 : decode cX8_force 61 = .ok (.invokevirtual 184, 3) := by decide +kernel
theorem dX8_force_64 : decode cX8_force 64 = .ok (.aload_n 0, 1) := by decide +kernel
theorem dX8_force_65 : decode cX8_force 65 = .ok (.getfield 10, 3) := by decide +kernel
theorem dX8_force_68 : decode cX8_force 68 = .ok (.iload_n 1, 1) := by decide +kernel
theorem dX8_force_69 : decode cX8_force 69 = .ok (.invokevirtual 132, 3) := by decide +kernel
theorem dX8_force_72 : decode cX8_force 72 = .ok (.ireturn, 1) := by decide +kernel
theorem dX8_lift_0 : decode cX8_lift 0 = .ok (.aload_n 0, 1) := by decide +kernel
theorem dX8_lift_1 : decode cX8_lift 1 = .ok (.iload_n 1, 1) := by decide +kernel
theorem dX8_lift_2 : decode cX8_lift 2 = .ok (.invokevirtual 104, 3) := by decide +kernel
theorem dX8_lift_5 : decode cX8_lift 5 = .ok (.ifCond .ne 7, 3) := by decide +kernel
theorem dX8_lift_8 : decode cX8_lift 8 = .ok (.sipush (-1001), 3) := by decide +kernel
theorem dX8_lift_11 : decode cX8_lift 11 = .ok (.ireturn, 1) := by decide +kernel
theorem dX8_lift_12 : decode cX8_lift 12 = .ok (.aload_n 0, 1) := by decide +kernel
theorem dX8_lift_13 : decode cX8_lift 13 = .ok (.getfield 10, 3) := by decide +kernel
theorem dX8_lift_16 : decode cX8_lift 16 = .ok (.getfield 59, 3) := by decide +kernel
theorem dX8_lift_19 : decode cX8_lift 19 = .ok (.iload_n 1, 1) := by decide +kernel
theorem dX8_lift_20 : decode cX8_lift 20 = .ok (.invokevirtual 110, 3) := by decide +kernel
theorem dX8_lift_23 : decode cX8_lift 23 = .ok (.ifCond .ne 7, 3) := by decide +kernel
theorem dX8_lift_26 : decode cX8_lift 26 = .ok (.sipush (-1002), 3) := by decide +kernel
theorem dX8_lift_29 : decode cX8_lift 29 = .ok (.ireturn, 1) := by decide +kernel
theorem dX8_lift_30 : decode cX8_lift 30 = .ok (.aload_n 0, 1) := by decide +kernel
theorem dX8_lift_31 : decode cX8_lift 31 = .ok (.getfield 22, 3) := by decide +kernel
theorem dX8_lift_34 : decode cX8_lift 34 = .ok (.aload_n 0, 1) := by decide +kernel
theorem dX8_lift_35 : decode cX8_lift 35 = .ok (.getfield 10, 3) := by decide +kernel
theorem dX8_lift_38 : decode cX8_lift 38 = .ok (.invokevirtual 55, 3) := by decide +kernel
theorem dX8_lift_41 : decode cX8_lift 41 = .ok (.aload_n 0, 1) := by decide +kernel
theorem dX8_lift_42 : decode cX8_lift 42 = .ok (.getfield 10, 3) := by decide +kernel
theorem dX8_lift_45 : decode cX8_lift 45 = .ok (.getfield 59, 3) := by decide +kernel
theorem dX8_lift_48 : decode cX8_lift 48 = .ok (.iload_n 1, 1) := by decide +kernel
theorem dX8_lift_49 : decode cX8_lift 49 = .ok (.invokevirtual 120, 3) := by decide +kernel
theorem dX8_lift_52 : decode cX8_lift 52 = .ok (.istore_n 2, 1) := by decide +kernel
theorem dX8_lift_53 : decode cX8_lift 53 = .ok (.aload_n 0, 1) := by decide +kernel
theorem dX8_lift_54 : decode cX8_lift 54 = .ok (.getfield 10, 3) := by decide +kernel
theorem dX8_lift_57 : decode cX8_lift 57 = .ok (.getfield 59, 3) := by decide +kernel
theorem dX8_lift_60 : decode cX8_lift 60 = .ok (.iload_n 1, 1) := by decide +kernel
theorem dX8_lift_61 : decode cX8_lift 61 = .ok (.invokevirtual 191, 3) := by decide +kernel
theorem dX8_lift_64 : decode cX8_lift 64 = .ok (.iload_n 2, 1) := by decide +kernel
theorem dX8_lift_65 : decode cX8_lift 65 = .ok (.ireturn, 1) := by decide +kernel
theorem dX8_turn_0 : decode cX8_turn 0 = .ok (.aload_n 0, 1) := by decide +kernel
theorem dX8_turn_1 : decode cX8_turn 1 = .ok (.iload_n 1, 1) := by decide +kernel
theorem dX8_turn_2 : decode cX8_turn 2 = .ok (.invokevirtual 104, 3) := by decide +kernel
theorem dX8_turn_5 : decode cX8_turn 5 = .ok (.ifCond .eq 10, 3) := by decide +kernel
theorem dX8_turn_8 : decode cX8_turn 8 = .ok (.iload_n 2, 1) := by decide +kernel
theorem dX8_turn_9 : decode cX8_turn 9 = .ok (.invokestatic 135, 3) := by decide +kernel
theorem dX8_turn_12 : decode cX8_turn 12 = .ok (.ifCond .ne 7, 3) := by decide +kernel
theorem dX8_turn_15 : decode cX8_turn 15 = .ok (.sipush (-1001), 3) := by decide +kernel
theorem dX8_turn_18 : decode cX8_turn 18 = .ok (.ireturn, 1) := by decide +kernel
theorem dX8_turn_19 : decode cX8_turn 19 = .ok (.aload_n 0, 1) := by decide +kernel
theorem dX8_turn_20 : decode cX8_turn 20 = .ok (.getfield 10, 3) := by decide +kernel
theorem dX8_turn_23 : decode cX8_turn 23 = .ok (.getfield 59, 3) := by decide +kernel
theorem dX8_turn_26 : decode cX8_turn 26 = .ok (.iload_n 1, 1) := by decide +kernel
theorem dX8_turn_27 : decode cX8_turn 27 = .ok (.invokevirtual 110, 3) := by decide +kernel
theorem dX8_turn_30 : decode cX8_turn 30 = .ok (.ifCond .ne 7, 3) := by decide +kernel
theorem dX8_turn_33 : decode cX8_turn 33 = .ok (.sipush (-1002), 3) := by decide +kernel
theorem dX8_turn_36 : decode cX8_turn 36 = .ok (.ireturn, 1) := by decide +kernel
theorem dX8_turn_37 : decode cX8_turn 37 = .ok (.aload_n 0, 1) := by decide +kernel
theorem dX8_turn_38 : decode cX8_turn 38 = .ok (.getfield 22, 3) := by decide +kernel
theorem dX8_turn_41 : decode cX8_turn 41 = .ok (.aload_n 0, 1) := by decide +kernel
theorem dX8_turn_42 : decode cX8_turn 42 = .ok (.getfield 10, 3) := by decide +kernel
theorem dX8_turn_45 : decode cX8_turn 45 = .ok (.invokevirtual 55, 3) := by decide +kernel
theorem dX8_turn_48 : decode cX8_turn 48 = .ok (.aload_n 0, 1) := by decide +kernel
theorem dX8_turn_49 : decode cX8_turn 49 = .ok (.getfield 10, 3) := by decide +kernel
theorem dX8_turn_52 : decode cX8_turn 52 = .ok (.getfield 59, 3) := by decide +kernel
theorem dX8_turn_55 : decode cX8_turn 55 = .ok (.iload_n 1, 1) := by decide +kernel
theorem dX8_turn_56 : decode cX8_turn 56 = .ok (.aload_n 0, 1) := by decide +kernel
theorem dX8_turn_57 : decode cX8_turn 57 = .ok (.getfield 10, 3) := by decide +kernel
theorem dX8_turn_60 : decode cX8_turn 60 = .ok (.getfield 59, 3) := by decide +kernel
theorem dX8_turn_63 : decode cX8_turn 63 = .ok (.iload_n 1, 1) := by decide +kernel
theorem dX8_turn_64 : decode cX8_turn 64 = .ok (.invokevirtual 120, 3) := by decide +kernel
theorem dX8_turn_67 : decode cX8_turn 67 = .ok (.iload_n 2, 1) := by decide +kernel
theorem dX8_turn_68 : decode cX8_turn 68 = .ok (.invokevirtual 184, 3) := by decide +kernel
theorem dX8_turn_71 : decode cX8_turn 71 = .ok (.aload_n 0, 1) := by decide +kernel
theorem dX8_turn_72 : decode cX8_turn 72 = .ok (.getfield 10, 3) := by decide +kernel
theorem dX8_turn_75 : decode cX8_turn 75 = .ok (.iload_n 1, 1) := by decide +kernel
theorem dX8_turn_76 : decode cX8_turn 76 = .ok (.invokevirtual 132, 3) := by decide +kernel
theorem dX8_turn_79 : decode cX8_turn 79 = .ok (.ireturn, 1) := by decide +kernel
theorem dX8_at_0 : decode cX8_at 0 = .ok (.aload_n 0, 1) := by decide +kernel
theorem dX8_at_1 : decode cX8_at 1 = .ok (.iload_n 1, 1) := by decide +kernel
theorem dX8_at_2 : decode cX8_at 2 = .ok (.invokevirtual 174, 3) := by decide +kernel
theorem dX8_at_5 : decode cX8_at 5 = .ok (.ifCond .ne 7, 3) := by decide +kernel
theorem dX8_at_8 : decode cX8_at 8 = .ok (.sipush (-1001), 3) := by decide +kernel
theorem dX8_at_11 : decode cX8_at 11 = .ok (.ireturn, 1) := by decide +kernel
theorem dX8_at_12 : decode cX8_at 12 = .ok (.aload_n 0, 1) := by decide +kernel
theorem dX8_at_13 : decode cX8_at 13 = .ok (.getfield 10, 3) := by decide +kernel
theorem dX8_at_16 : decode cX8_at 16 = .ok (.getfield 59, 3) := by decide +kernel
theorem dX8_at_19 : decode cX8_at 19 = .ok (.iload_n 1, 1) := by decide +kernel
theorem dX8_at_20 : decode cX8_at 20 = .ok (.invokevirtual 194, 3) := by decide +kernel
theorem dX8_at_23 : decode cX8_at 23 = .ok (.istore_n 2, 1) := by decide +kernel
theorem dX8_at_24 : decode cX8_at 24 = .ok (.iload_n 2, 1) := by decide +kernel
theorem dX8_at_25 : decode cX8_at 25 = .ok (.iconst (-1), 1) := by decide +kernel
theorem dX8_at_26 : decode cX8_at 26 = .ok (.if_icmp .ne 9, 3) := by decide +kernel
theorem dX8_at_29 : decode cX8_at 29 = .ok (.sipush (-1004), 3) := by decide +kernel
theorem dX8_at_32 : decode cX8_at 32 = .ok (.goto 4, 3) := by decide +kernel
theorem dX8_at_35 : decode cX8_at 35 = .ok (.iload_n 2, 1) := by decide +kernel
theorem dX8_at_36 : decode cX8_at 36 = .ok (.ireturn, 1) := by decide +kernel
theorem dX8_reason_0 : decode cX8_reason 0 = .ok (.aload_n 0, 1) := by decide +kernel
theorem dX8_reason_1 : decode cX8_reason 1 = .ok (.iload_n 1, 1) := by decide +kernel
theorem dX8_reason_2 : decode cX8_reason 2 = .ok (.invokevirtual 174, 3) := by decide +kernel
theorem dX8_reason_5 : decode cX8_reason 5 = .ok (.ifCond .eq 10, 3) := by decide +kernel
theorem dX8_reason_8 : decode cX8_reason 8 = .ok (.iload_n 2, 1) := by decide +kernel
theorem dX8_reason_9 : decode cX8_reason 9 = .ok (.invokestatic 138, 3) := by decide +kernel
theorem dX8_reason_12 : decode cX8_reason 12 = .ok (.ifCond .ne 7, 3) := by decide +kernel
theorem dX8_reason_15 : decode cX8_reason 15 = .ok (.sipush (-1001), 3) := by decide +kernel
theorem dX8_reason_18 : decode cX8_reason 18 = .ok (.ireturn, 1) := by decide +kernel
theorem dX8_reason_19 : decode cX8_reason 19 = .ok (.aload_n 0, 1) := by decide +kernel
theorem dX8_reason_20 : decode cX8_reason 20 = .ok (.getfield 10, 3) := by decide +kernel
theorem dX8_reason_23 : decode cX8_reason 23 = .ok (.getfield 59, 3) := by decide +kernel
theorem dX8_reason_26 : decode cX8_reason 26 = .ok (.iload_n 1, 1) := by decide +kernel
theorem dX8_reason_27 : decode cX8_reason 27 = .ok (.invokevirtual 194, 3) := by decide +kernel
theorem dX8_reason_30 : decode cX8_reason 30 = .ok (.istore_n 3, 1) := by decide +kernel
theorem dX8_reason_31 : decode cX8_reason 31 = .ok (.iload_n 3, 1) := by decide +kernel
theorem dX8_reason_32 : decode cX8_reason 32 = .ok (.iconst (-1), 1) := by decide +kernel
theorem dX8_reason_33 : decode cX8_reason 33 = .ok (.if_icmp .ne 7, 3) := by decide +kernel
theorem dX8_reason_36 : decode cX8_reason 36 = .ok (.sipush (-1004), 3) := by decide +kernel
theorem dX8_reason_39 : decode cX8_reason 39 = .ok (.ireturn, 1) := by decide +kernel
theorem dX8_reason_40 : decode cX8_reason 40 = .ok (.aload_n 0, 1) := by decide +kernel
theorem dX8_reason_41 : decode cX8_reason 41 = .ok (.getfield 10, 3) := by decide +kernel
theorem dX8_reason_44 : decode cX8_reason 44 = .ok (.iload_n 3, 1) := by decide +kernel
theorem dX8_reason_45 : decode cX8_reason 45 = .ok (.iload_n 1, 1) := by decide +kernel
theorem dX8_reason_46 : decode cX8_reason 46 = .ok (.aload_n 0, 1) := by decide +kernel
theorem dX8_reason_47 : decode cX8_reason 47 = .ok (.getfield 10, 3) := by decide +kernel
theorem dX8_reason_50 : decode cX8_reason 50 = .ok (.getfield 59, 3) := by decide +kernel
theorem dX8_reason_53 : decode cX8_reason 53 = .ok (.iload_n 3, 1) := by decide +kernel
theorem dX8_reason_54 : decode cX8_reason 54 = .ok (.invokevirtual 117, 3) := by decide +kernel
theorem dX8_reason_57 : decode cX8_reason 57 = .ok (.iload_n 2, 1) := by decide +kernel
theorem dX8_reason_58 : decode cX8_reason 58 = .ok (.invokevirtual 197, 3) := by decide +kernel
theorem dX8_reason_61 : decode cX8_reason 61 = .ok (.istore 4, 2) := by decide +kernel
theorem dX8_reason_63 : decode cX8_reason 63 = .ok (.iload 4, 2) := by decide +kernel
theorem dX8_reason_65 : decode cX8_reason 65 = .ok (.iconst (-1), 1) := by decide +kernel
theorem dX8_reason_66 : decode cX8_reason 66 = .ok (.if_icmp .ne 9, 3) := by decide +kernel
theorem dX8_reason_69 : decode cX8_reason 69 = .ok (.sipush (-1004), 3) := by decide +kernel
theorem dX8_reason_72 : decode cX8_reason 72 = .ok (.goto 5, 3) := by decide +kernel
theorem dX8_reason_75 : decode cX8_reason 75 = .ok (.iload 4, 2) := by decide +kernel
theorem dX8_reason_77 : decode cX8_reason 77 = .ok (.ireturn, 1) := by decide +kernel
theorem dX8_ways_0 : decode cX8_ways 0 = .ok (.aload_n 0, 1) := by decide +kernel
theorem dX8_ways_1 : decode cX8_ways 1 = .ok (.iload_n 1, 1) := by decide +kernel
theorem dX8_ways_2 : decode cX8_ways 2 = .ok (.invokevirtual 104, 3) := by decide +kernel
theorem dX8_ways_5 : decode cX8_ways 5 = .ok (.ifCond .eq 11, 3) := by decide +kernel
theorem dX8_ways_8 : decode cX8_ways 8 = .ok (.aload_n 0, 1) := by decide +kernel
theorem dX8_ways_9 : decode cX8_ways 9 = .ok (.iload_n 2, 1) := by decide +kernel
theorem dX8_ways_10 : decode cX8_ways 10 = .ok (.invokevirtual 174, 3) := by decide +kernel
theorem dX8_ways_13 : decode cX8_ways 13 = .ok (.ifCond .ne 7, 3) := by decide +kernel
theorem dX8_ways_16 : decode cX8_ways 16 = .ok (.sipush (-1001), 3) := by decide +kernel
theorem dX8_ways_19 : decode cX8_ways 19 = .ok (.ireturn, 1) := by decide +kernel
theorem dX8_ways_20 : decode cX8_ways 20 = .ok (.aload_n 0, 1) := by decide +kernel
theorem dX8_ways_21 : decode cX8_ways 21 = .ok (.getfield 10, 3) := by decide +kernel
theorem dX8_ways_24 : decode cX8_ways 24 = .ok (.getfield 59, 3) := by decide +kernel
theorem dX8_ways_27 : decode cX8_ways 27 = .ok (.iload_n 2, 1) := by decide +kernel
theorem dX8_ways_28 : decode cX8_ways 28 = .ok (.invokevirtual 194, 3) := by decide +kernel
theorem dX8_ways_31 : decode cX8_ways 31 = .ok (.istore_n 3, 1) := by decide +kernel
theorem dX8_ways_32 : decode cX8_ways 32 = .ok (.iload_n 3, 1) := by decide +kernel
theorem dX8_ways_33 : decode cX8_ways 33 = .ok (.iconst (-1), 1) := by decide +kernel
theorem dX8_ways_34 : decode cX8_ways 34 = .ok (.if_icmp .eq 12, 3) := by decide +kernel
theorem dX8_ways_37 : decode cX8_ways 37 = .ok (.iload_n 3, 1) := by decide +kernel
theorem dX8_ways_38 : decode cX8_ways 38 = .ok (.iload_n 1, 1) := by decide +kernel
theorem dX8_ways_39 : decode cX8_ways 39 = .ok (.if_icmp .eq 7, 3) := by decide +kernel
theorem dX8_ways_42 : decode cX8_ways 42 = .ok (.sipush (-1002), 3) := by decide +kernel
theorem dX8_ways_45 : decode cX8_ways 45 = .ok (.ireturn, 1) := by decide +kernel
theorem dX8_ways_46 : decode cX8_ways 46 = .ok (.aload_n 0, 1) := by decide +kernel
theorem dX8_ways_47 : decode cX8_ways 47 = .ok (.getfield 10, 3) := by decide +kernel
theorem dX8_ways_50 : decode cX8_ways 50 = .ok (.iload_n 1, 1) := by decide +kernel
theorem dX8_ways_51 : decode cX8_ways 51 = .ok (.iload_n 2, 1) := by decide +kernel
theorem dX8_ways_52 : decode cX8_ways 52 = .ok (.invokevirtual 201, 3) := by decide +kernel
theorem dX8_ways_55 : decode cX8_ways 55 = .ok (.ireturn, 1) := by decide +kernel
theorem dX8_fill_0 : decode cX8_fill 0 = .ok (.aload_n 0, 1) := by decide +kernel
theorem dX8_fill_1 : decode cX8_fill 1 = .ok (.getfield 22, 3) := by decide +kernel
theorem dX8_fill_4 : decode cX8_fill 4 = .ok (.aload_n 0, 1) := by decide +kernel
theorem dX8_fill_5 : decode cX8_fill 5 = .ok (.getfield 10, 3) := by decide +kernel
theorem dX8_fill_8 : decode cX8_fill 8 = .ok (.invokevirtual 55, 3) := by decide +kernel
theorem dX8_fill_11 : decode cX8_fill 11 = .ok (.iconst 0, 1) := by decide +kernel
theorem dX8_fill_12 : decode cX8_fill 12 = .ok (.istore_n 1, 1) := by decide +kernel
theorem dX8_fill_13 : decode cX8_fill 13 = .ok (.iload_n 1, 1) := by decide +kernel
theorem dX8_fill_14 : decode cX8_fill 14 = .ok (.bipush 12, 2) := by decide +kernel
theorem dX8_fill_16 : decode cX8_fill 16 = .ok (.if_icmp .ge 19, 3) := by decide +kernel
theorem dX8_fill_19 : decode cX8_fill 19 = .ok (.aload_n 0, 1) := by decide +kernel
theorem dX8_fill_20 : decode cX8_fill 20 = .ok (.getfield 10, 3) := by decide +kernel
theorem dX8_fill_23 : decode cX8_fill 23 = .ok (.invokevirtual 207, 3) := by decide +kernel
theorem dX8_fill_26 : decode cX8_fill 26 = .ok (.ifCond .eq 9, 3) := by decide +kernel
theorem dX8_fill_29 : decode cX8_fill 29 = .ok (.iinc 1 1, 3) := by decide +kernel
theorem dX8_fill_32 : decode cX8_fill 32 = .ok (.goto (-19), 3) := by decide +kernel
theorem dX8_fill_35 : decode cX8_fill 35 = .ok (.iload_n 1, 1) := by decide +kernel
theorem dX8_fill_36 : decode cX8_fill 36 = .ok (.ireturn, 1) := by decide +kernel
theorem dX8_member_0 : decode cX8_member 0 = .ok (.aload_n 0, 1) := by decide +kernel
theorem dX8_member_1 : decode cX8_member 1 = .ok (.getfield 29, 3) := by decide +kernel
theorem dX8_member_4 : decode cX8_member 4 = .ok (.aload_n 0, 1) := by decide +kernel
theorem dX8_member_5 : decode cX8_member 5 = .ok (.getfield 10, 3) := by decide +kernel
theorem dX8_member_8 : decode cX8_member 8 = .ok (.invokevirtual 123, 3) := by decide +kernel
theorem dX8_member_11 : decode cX8_member 11 = .ok (.iload_n 1, 1) := by decide +kernel
theorem dX8_member_12 : decode cX8_member 12 = .ok (.iconst 0, 1) := by decide +kernel
theorem dX8_member_13 : decode cX8_member 13 = .ok (.aload_n 0, 1) := by decide +kernel
theorem dX8_member_14 : decode cX8_member 14 = .ok (.getfield 29, 3) := by decide +kernel
theorem dX8_member_17 : decode cX8_member 17 = .ok (.invokevirtual 158, 3) := by decide +kernel
theorem dX8_member_20 : decode cX8_member 20 = .ok (.iconst 1, 1) := by decide +kernel
theorem dX8_member_21 : decode cX8_member 21 = .ok (.isub, 1) := by decide +kernel
theorem dX8_member_22 : decode cX8_member 22 = .ok (.invokestatic 47, 3) := by decide +kernel
theorem dX8_member_25 : decode cX8_member 25 = .ok (.ifCond .eq 7, 3) := by decide +kernel
theorem dX8_member_28 : decode cX8_member 28 = .ok (.iload_n 2, 1) := by decide +kernel
theorem dX8_member_29 : decode cX8_member 29 = .ok (.ifCond .ge 7, 3) := by decide +kernel
theorem dX8_member_32 : decode cX8_member 32 = .ok (.sipush (-1001), 3) := by decide +kernel
theorem dX8_member_35 : decode cX8_member 35 = .ok (.ireturn, 1) := by decide +kernel
theorem dX8_member_36 : decode cX8_member 36 = .ok (.aload_n 0, 1) := by decide +kernel
theorem dX8_member_37 : decode cX8_member 37 = .ok (.getfield 29, 3) := by decide +kernel
theorem dX8_member_40 : decode cX8_member 40 = .ok (.iload_n 1, 1) := by decide +kernel
theorem dX8_member_41 : decode cX8_member 41 = .ok (.iload_n 2, 1) := by decide +kernel
theorem dX8_member_42 : decode cX8_member 42 = .ok (.invokevirtual 210, 3) := by decide +kernel
theorem dX8_member_45 : decode cX8_member 45 = .ok (.istore_n 3, 1) := by decide +kernel
theorem dX8_member_46 : decode cX8_member 46 = .ok (.iload_n 3, 1) := by decide +kernel
theorem dX8_member_47 : decode cX8_member 47 = .ok (.iconst (-1), 1) := by decide +kernel
theorem dX8_member_48 : decode cX8_member 48 = .ok (.if_icmp .ne 9, 3) := by decide +kernel
theorem dX8_member_51 : decode cX8_member 51 = .ok (.sipush (-1004), 3) := by decide +kernel
theorem dX8_member_54 : decode cX8_member 54 = .ok (.goto 4, 3) := by decide +kernel
theorem dX8_member_57 : decode cX8_member 57 = .ok (.iload_n 3, 1) := by decide +kernel
theorem dX8_member_58 : decode cX8_member 58 = .ok (.ireturn, 1) := by decide +kernel
theorem dX8_append_0 : decode cX8_append 0 = .ok (.aload_n 0, 1) := by decide +kernel
theorem dX8_append_1 : decode cX8_append 1 = .ok (.getfield 22, 3) := by decide +kernel
theorem dX8_append_4 : decode cX8_append 4 = .ok (.aload_n 0, 1) := by decide +kernel
theorem dX8_append_5 : decode cX8_append 5 = .ok (.getfield 10, 3) := by decide +kernel
theorem dX8_append_8 : decode cX8_append 8 = .ok (.invokevirtual 55, 3) := by decide +kernel
theorem dX8_append_11 : decode cX8_append 11 = .ok (.aload_n 0, 1) := by decide +kernel
theorem dX8_append_12 : decode cX8_append 12 = .ok (.getfield 10, 3) := by decide +kernel
theorem dX8_append_15 : decode cX8_append 15 = .ok (.getfield 73, 3) := by decide +kernel
theorem dX8_append_18 : decode cX8_append 18 = .ok (.aload_n 1, 1) := by decide +kernel
theorem dX8_append_19 : decode cX8_append 19 = .ok (.invokevirtual 227, 3) := by decide +kernel
theorem dX8_append_22 : decode cX8_append 22 = .ok (.aload_n 0, 1) := by decide +kernel
theorem dX8_append_23 : decode cX8_append 23 = .ok (.getfield 10, 3) := by decide +kernel
theorem dX8_append_26 : decode cX8_append 26 = .ok (.getfield 73, 3) := by decide +kernel
theorem dX8_append_29 : decode cX8_append 29 = .ok (.invokevirtual 77, 3) := by decide +kernel
theorem dX8_append_32 : decode cX8_append 32 = .ok (.iconst 1, 1) := by decide +kernel
theorem dX8_append_33 : decode cX8_append 33 = .ok (.isub, 1) := by decide +kernel
theorem dX8_append_34 : decode cX8_append 34 = .ok (.ireturn, 1) := by decide +kernel
theorem dX8_isFree_0 : decode cX8_isFree 0 = .ok (.aload_n 0, 1) := by decide +kernel
theorem dX8_isFree_1 : decode cX8_isFree 1 = .ok (.getfield 10, 3) := by decide +kernel
theorem dX8_isFree_4 : decode cX8_isFree 4 = .ok (.getfield 59, 3) := by decide +kernel
theorem dX8_isFree_7 : decode cX8_isFree 7 = .ok (.iload_n 1, 1) := by decide +kernel
theorem dX8_isFree_8 : decode cX8_isFree 8 = .ok (.invokevirtual 110, 3) := by decide +kernel
theorem dX8_isFree_11 : decode cX8_isFree 11 = .ok (.ifCond .ne 22, 3) := by decide +kernel
theorem dX8_isFree_14 : decode cX8_isFree 14 = .ok (.aload_n 0, 1) := by decide +kernel
theorem dX8_isFree_15 : decode cX8_isFree 15 = .ok (.getfield 10, 3) := by decide +kernel
theorem dX8_isFree_18 : decode cX8_isFree 18 = .ok (.getfield 59, 3) := by decide +kernel
theorem dX8_isFree_21 : decode cX8_isFree 21 = .ok (.iload_n 2, 1) := by decide +kernel
theorem dX8_isFree_22 : decode cX8_isFree 22 = .ok (.invokevirtual 194, 3) := by decide +kernel
theorem dX8_isFree_25 : decode cX8_isFree 25 = .ok (.iconst (-1), 1) := by decide +kernel
theorem dX8_isFree_26 : decode cX8_isFree 26 = .ok (.if_icmp .ne 7, 3) := by decide +kernel
theorem dX8_isFree_29 : decode cX8_isFree 29 = .ok (.iconst 1, 1) := by decide +kernel
theorem dX8_isFree_30 : decode cX8_isFree 30 = .ok (.goto 4, 3) := by decide +kernel
theorem dX8_isFree_33 : decode cX8_isFree 33 = .ok (.iconst 0, 1) := by decide +kernel
theorem dX8_isFree_34 : decode cX8_isFree 34 = .ok (.ireturn, 1) := by decide +kernel
theorem dX8_isScrap_0 : decode cX8_isScrap 0 = .ok (.iload_n 1, 1) := by decide +kernel
theorem dX8_isScrap_1 : decode cX8_isScrap 1 = .ok (.iconst 0, 1) := by decide +kernel
theorem dX8_isScrap_2 : decode cX8_isScrap 2 = .ok (.aload_n 0, 1) := by decide +kernel
theorem dX8_isScrap_3 : decode cX8_isScrap 3 = .ok (.getfield 10, 3) := by decide +kernel
theorem dX8_isScrap_6 : decode cX8_isScrap 6 = .ok (.getfield 73, 3) := by decide +kernel
theorem dX8_isScrap_9 : decode cX8_isScrap 9 = .ok (.invokevirtual 77, 3) := by decide +kernel
theorem dX8_isScrap_12 : decode cX8_isScrap 12 = .ok (.iconst 1, 1) := by decide +kernel
theorem dX8_isScrap_13 : decode cX8_isScrap 13 = .ok (.isub, 1) := by decide +kernel
theorem dX8_isScrap_14 : decode cX8_isScrap 14 = .ok (.invokestatic 47, 3) := by decide +kernel
theorem dX8_isScrap_17 : decode cX8_isScrap 17 = .ok (.ireturn, 1) := by decide +kernel
theorem dX8_isPlace_0 : decode cX8_isPlace 0 = .ok (.iload_n 1, 1) := by decide +kernel
theorem dX8_isPlace_1 : decode cX8_isPlace 1 = .ok (.iconst 0, 1) := by decide +kernel
theorem dX8_isPlace_2 : decode cX8_isPlace 2 = .ok (.aload_n 0, 1) := by decide +kernel
theorem dX8_isPlace_3 : decode cX8_isPlace 3 = .ok (.getfield 10, 3) := by decide +kernel
theorem dX8_isPlace_6 : decode cX8_isPlace 6 = .ok (.getfield 59, 3) := by decide +kernel
theorem dX8_isPlace_9 : decode cX8_isPlace 9 = .ok (.invokevirtual 168, 3) := by decide +kernel
theorem dX8_isPlace_12 : decode cX8_isPlace 12 = .ok (.iconst 1, 1) := by decide +kernel
theorem dX8_isPlace_13 : decode cX8_isPlace 13 = .ok (.isub, 1) := by decide +kernel
theorem dX8_isPlace_14 : decode cX8_isPlace 14 = .ok (.invokestatic 47, 3) := by decide +kernel
theorem dX8_isPlace_17 : decode cX8_isPlace 17 = .ok (.ireturn, 1) := by decide +kernel
theorem dX8_isOrientation_0 : decode cX8_isOrientation 0 = .ok (.iload_n 0, 1) := by decide +kernel
theorem dX8_isOrientation_1 : decode cX8_isOrientation 1 = .ok (.iconst 0, 1) := by decide +kernel
theorem dX8_isOrientation_2 : decode cX8_isOrientation 2 = .ok (.bipush 7, 2) := by decide +kernel
theorem dX8_isOrientation_4 : decode cX8_isOrientation 4 = .ok (.invokestatic 47, 3) := by decide +kernel
theorem dX8_isOrientation_7 : decode cX8_isOrientation 7 = .ok (.ireturn, 1) := by decide +kernel
theorem dX8_isEdge_0 : decode cX8_isEdge 0 = .ok (.iload_n 0, 1) := by decide +kernel
theorem dX8_isEdge_1 : decode cX8_isEdge 1 = .ok (.iconst 0, 1) := by decide +kernel
theorem dX8_isEdge_2 : decode cX8_isEdge 2 = .ok (.iconst 3, 1) := by decide +kernel
theorem dX8_isEdge_3 : decode cX8_isEdge 3 = .ok (.invokestatic 47, 3) := by decide +kernel
theorem dX8_isEdge_6 : decode cX8_isEdge 6 = .ok (.ireturn, 1) := by decide +kernel
theorem dX8_isProfile_0 : decode cX8_isProfile 0 = .ok (.iload_n 0, 1) := by decide +kernel
theorem dX8_isProfile_1 : decode cX8_isProfile 1 = .ok (.iconst (-1), 1) := by decide +kernel
theorem dX8_isProfile_2 : decode cX8_isProfile 2 = .ok (.sipush 999, 3) := by decide +kernel
theorem dX8_isProfile_5 : decode cX8_isProfile 5 = .ok (.invokestatic 47, 3) := by decide +kernel
theorem dX8_isProfile_8 : decode cX8_isProfile 8 = .ok (.ireturn, 1) := by decide +kernel
theorem dX8_isWithin_0 : decode cX8_isWithin 0 = .ok (.iload_n 1, 1) := by decide +kernel
theorem dX8_isWithin_1 : decode cX8_isWithin 1 = .ok (.iload_n 0, 1) := by decide +kernel
theorem dX8_isWithin_2 : decode cX8_isWithin 2 = .ok (.if_icmp .gt 12, 3) := by decide +kernel
theorem dX8_isWithin_5 : decode cX8_isWithin 5 = .ok (.iload_n 0, 1) := by decide +kernel
theorem dX8_isWithin_6 : decode cX8_isWithin 6 = .ok (.iload_n 2, 1) := by decide +kernel
theorem dX8_isWithin_7 : decode cX8_isWithin 7 = .ok (.if_icmp .gt 7, 3) := by decide +kernel
theorem dX8_isWithin_10 : decode cX8_isWithin 10 = .ok (.iconst 1, 1) := by decide +kernel
theorem dX8_isWithin_11 : decode cX8_isWithin 11 = .ok (.goto 4, 3) := by decide +kernel
theorem dX8_isWithin_14 : decode cX8_isWithin 14 = .ok (.iconst 0, 1) := by decide +kernel
theorem dX8_isWithin_15 : decode cX8_isWithin 15 = .ok (.ireturn, 1) := by decide +kernel
theorem dJ9_max_7cf53_0 : decode cJ9_max_7cf53 0 = .ok (.iload_n 0, 1) := by decide +kernel
theorem dJ9_max_7cf53_1 : decode cJ9_max_7cf53 1 = .ok (.iload_n 1, 1) := by decide +kernel
theorem dJ9_max_7cf53_2 : decode cJ9_max_7cf53 2 = .ok (.if_icmp .lt 7, 3) := by decide +kernel
theorem dJ9_max_7cf53_5 : decode cJ9_max_7cf53 5 = .ok (.iload_n 0, 1) := by decide +kernel
theorem dJ9_max_7cf53_6 : decode cJ9_max_7cf53 6 = .ok (.goto 4, 3) := by decide +kernel
theorem dJ9_max_7cf53_9 : decode cJ9_max_7cf53 9 = .ok (.iload_n 1, 1) := by decide +kernel
theorem dJ9_max_7cf53_10 : decode cJ9_max_7cf53 10 = .ok (.ireturn, 1) := by decide +kernel
theorem dJ9_min_7cf53_0 : decode cJ9_min_7cf53 0 = .ok (.iload_n 0, 1) := by decide +kernel
theorem dJ9_min_7cf53_1 : decode cJ9_min_7cf53 1 = .ok (.iload_n 1, 1) := by decide +kernel
theorem dJ9_min_7cf53_2 : decode cJ9_min_7cf53 2 = .ok (.if_icmp .gt 7, 3) := by decide +kernel
theorem dJ9_min_7cf53_5 : decode cJ9_min_7cf53 5 = .ok (.iload_n 0, 1) := by decide +kernel
theorem dJ9_min_7cf53_6 : decode cJ9_min_7cf53 6 = .ok (.goto 4, 3) := by decide +kernel
theorem dJ9_min_7cf53_9 : decode cJ9_min_7cf53 9 = .ok (.iload_n 1, 1) := by decide +kernel
theorem dJ9_min_7cf53_10 : decode cJ9_min_7cf53 10 = .ok (.ireturn, 1) := by decide +kernel
theorem dJ7_fill_53178_0 : decode cJ7_fill_53178 0 = .ok (.iconst 0, 1) := by decide +kernel
theorem dJ7_fill_53178_1 : decode cJ7_fill_53178 1 = .ok (.istore_n 2, 1) := by decide +kernel
theorem dJ7_fill_53178_2 : decode cJ7_fill_53178 2 = .ok (.aload_n 0, 1) := by decide +kernel
theorem dJ7_fill_53178_3 : decode cJ7_fill_53178 3 = .ok (.arraylength, 1) := by decide +kernel
theorem dJ7_fill_53178_4 : decode cJ7_fill_53178 4 = .ok (.istore_n 3, 1) := by decide +kernel
theorem dJ7_fill_53178_5 : decode cJ7_fill_53178 5 = .ok (.iload_n 2, 1) := by decide +kernel
theorem dJ7_fill_53178_6 : decode cJ7_fill_53178 6 = .ok (.iload_n 3, 1) := by decide +kernel
theorem dJ7_fill_53178_7 : decode cJ7_fill_53178 7 = .ok (.if_icmp .ge 13, 3) := by decide +kernel
theorem dJ7_fill_53178_10 : decode cJ7_fill_53178 10 = .ok (.aload_n 0, 1) := by decide +kernel
theorem dJ7_fill_53178_11 : decode cJ7_fill_53178 11 = .ok (.iload_n 2, 1) := by decide +kernel
theorem dJ7_fill_53178_12 : decode cJ7_fill_53178 12 = .ok (.iload_n 1, 1) := by decide +kernel
theorem dJ7_fill_53178_13 : decode cJ7_fill_53178 13 = .ok (.iastore, 1) := by decide +kernel
theorem dJ7_fill_53178_14 : decode cJ7_fill_53178 14 = .ok (.iinc 2 1, 3) := by decide +kernel
theorem dJ7_fill_53178_17 : decode cJ7_fill_53178 17 = .ok (.goto (-12), 3) := by decide +kernel
theorem dJ7_fill_53178_20 : decode cJ7_fill_53178 20 = .ok (.return_, 1) := by decide +kernel
theorem dL_cell_0 : decode cL_cell 0 = .ok (.iload_n 1, 1) := by decide +kernel
theorem dL_cell_1 : decode cL_cell 1 = .ok (.aload_n 0, 1) := by decide +kernel
theorem dL_cell_2 : decode cL_cell 2 = .ok (.arraylength, 1) := by decide +kernel
theorem dL_cell_3 : decode cL_cell 3 = .ok (.if_icmp .ge 9, 3) := by decide +kernel
theorem dL_cell_6 : decode cL_cell 6 = .ok (.aload_n 0, 1) := by decide +kernel
theorem dL_cell_7 : decode cL_cell 7 = .ok (.iload_n 1, 1) := by decide +kernel
theorem dL_cell_8 : decode cL_cell 8 = .ok (.iaload, 1) := by decide +kernel
theorem dL_cell_9 : decode cL_cell 9 = .ok (.goto 10, 3) := by decide +kernel
theorem dL_cell_12 : decode cL_cell 12 = .ok (.ldc 7, 2) := by decide +kernel
theorem dL_cell_14 : decode cL_cell 14 = .ok (.iload_n 1, 1) := by decide +kernel
theorem dL_cell_15 : decode cL_cell 15 = .ok (.imul, 1) := by decide +kernel
theorem dL_cell_16 : decode cL_cell 16 = .ok (.bipush 109, 2) := by decide +kernel
theorem dL_cell_18 : decode cL_cell 18 = .ok (.iadd, 1) := by decide +kernel
theorem dL_cell_19 : decode cL_cell 19 = .ok (.ldc 8, 2) := by decide +kernel
theorem dL_cell_21 : decode cL_cell 21 = .ok (.iand, 1) := by decide +kernel
theorem dL_cell_22 : decode cL_cell 22 = .ok (.ireturn, 1) := by decide +kernel
theorem dL_back_0 : decode cL_back 0 = .ok (.iload_n 0, 1) := by decide +kernel
theorem dL_back_1 : decode cL_back 1 = .ok (.ifCond .ge 7, 3) := by decide +kernel
theorem dL_back_4 : decode cL_back 4 = .ok (.iload_n 0, 1) := by decide +kernel
theorem dL_back_5 : decode cL_back 5 = .ok (.goto 26, 3) := by decide +kernel
theorem dL_back_8 : decode cL_back 8 = .ok (.iload_n 0, 1) := by decide +kernel
theorem dL_back_9 : decode cL_back 9 = .ok (.bipush 10, 2) := by decide +kernel
theorem dL_back_11 : decode cL_back 11 = .ok (.irem, 1) := by decide +kernel
theorem dL_back_12 : decode cL_back 12 = .ok (.bipush 100, 2) := by decide +kernel
theorem dL_back_14 : decode cL_back 14 = .ok (.imul, 1) := by decide +kernel
theorem dL_back_15 : decode cL_back 15 = .ok (.iload_n 0, 1) := by decide +kernel
theorem dL_back_16 : decode cL_back 16 = .ok (.bipush 10, 2) := by decide +kernel
theorem dL_back_18 : decode cL_back 18 = .ok (.idiv, 1) := by decide +kernel
theorem dL_back_19 : decode cL_back 19 = .ok (.bipush 10, 2) := by decide +kernel
theorem dL_back_21 : decode cL_back 21 = .ok (.irem, 1) := by decide +kernel
theorem dL_back_22 : decode cL_back 22 = .ok (.bipush 10, 2) := by decide +kernel
theorem dL_back_24 : decode cL_back 24 = .ok (.imul, 1) := by decide +kernel
theorem dL_back_25 : decode cL_back 25 = .ok (.iadd, 1) := by decide +kernel
theorem dL_back_26 : decode cL_back 26 = .ok (.iload_n 0, 1) := by decide +kernel
theorem dL_back_27 : decode cL_back 27 = .ok (.bipush 100, 2) := by decide +kernel
theorem dL_back_29 : decode cL_back 29 = .ok (.idiv, 1) := by decide +kernel
theorem dL_back_30 : decode cL_back 30 = .ok (.iadd, 1) := by decide +kernel
theorem dL_back_31 : decode cL_back 31 = .ok (.ireturn, 1) := by decide +kernel
theorem dL_turns_0 : decode cL_turns 0 = .ok (.iconst 1, 1) := by decide +kernel
theorem dL_turns_1 : decode cL_turns 1 = .ok (.istore_n 2, 1) := by decide +kernel
theorem dL_turns_2 : decode cL_turns 2 = .ok (.iconst 0, 1) := by decide +kernel
theorem dL_turns_3 : decode cL_turns 3 = .ok (.istore_n 3, 1) := by decide +kernel
theorem dL_turns_4 : decode cL_turns 4 = .ok (.iload_n 3, 1) := by decide +kernel
theorem dL_turns_5 : decode cL_turns 5 = .ok (.bipush 8, 2) := by decide +kernel
theorem dL_turns_7 : decode cL_turns 7 = .ok (.if_icmp .ge 196, 3) := by decide +kernel
theorem dL_turns_10 : decode cL_turns 10 = .ok (.iload_n 2, 1) := by decide +kernel
theorem dL_turns_11 : decode cL_turns 11 = .ok (.ifCond .eq 192, 3) := by decide +kernel
theorem dL_turns_14 : decode cL_turns 14 = .ok (.iload_n 3, 1) := by decide +kernel
theorem dL_turns_15 : decode cL_turns 15 = .ok (.iconst 4, 1) := by decide +kernel
theorem dL_turns_16 : decode cL_turns 16 = .ok (.idiv, 1) := by decide +kernel
theorem dL_turns_17 : decode cL_turns 17 = .ok (.iconst 4, 1) := by decide +kernel
theorem dL_turns_18 : decode cL_turns 18 = .ok (.imul, 1) := by decide +kernel
theorem dL_turns_19 : decode cL_turns 19 = .ok (.iload_n 3, 1) := by decide +kernel
theorem dL_turns_20 : decode cL_turns 20 = .ok (.iconst 1, 1) := by decide +kernel
theorem dL_turns_21 : decode cL_turns 21 = .ok (.iadd, 1) := by decide +kernel
theorem dL_turns_22 : decode cL_turns 22 = .ok (.iconst 4, 1) := by decide +kernel
theorem dL_turns_23 : decode cL_turns 23 = .ok (.irem, 1) := by decide +kernel
theorem dL_turns_24 : decode cL_turns 24 = .ok (.iadd, 1) := by decide +kernel
theorem dL_turns_25 : decode cL_turns 25 = .ok (.istore 4, 2) := by decide +kernel
theorem dL_turns_27 : decode cL_turns 27 = .ok (.aload_n 0, 1) := by decide +kernel
theorem dL_turns_28 : decode cL_turns 28 = .ok (.iload_n 1, 1) := by decide +kernel
theorem dL_turns_29 : decode cL_turns 29 = .ok (.iload 4, 2) := by decide +kernel
theorem dL_turns_31 : decode cL_turns 31 = .ok (.iconst 1, 1) := by decide +kernel
theorem dL_turns_32 : decode cL_turns 32 = .ok (.iconst 0, 1) := by decide +kernel
theorem dL_turns_33 : decode cL_turns 33 = .ok (.invokevirtual 9, 3) := by decide +kernel
theorem dL_turns_36 : decode cL_turns 36 = .ok (.aload_n 0, 1) := by decide +kernel
theorem dL_turns_37 : decode cL_turns 37 = .ok (.iload_n 1, 1) := by decide +kernel
theorem dL_turns_38 : decode cL_turns 38 = .ok (.iload_n 3, 1) := by decide +kernel
theorem dL_turns_39 : decode cL_turns 39 = .ok (.iconst 0, 1) := by decide +kernel
theorem dL_turns_40 : decode cL_turns 40 = .ok (.iconst 0, 1) := by decide +kernel
theorem dL_turns_41 : decode cL_turns 41 = .ok (.invokevirtual 9, 3) := by decide +kernel
theorem dL_turns_44 : decode cL_turns 44 = .ok (.if_icmp .ne 73, 3) := by decide +kernel
theorem dL_turns_47 : decode cL_turns 47 = .ok (.aload_n 0, 1) := by decide +kernel
theorem dL_turns_48 : decode cL_turns 48 = .ok (.iload_n 1, 1) := by decide +kernel
theorem dL_turns_49 : decode cL_turns 49 = .ok (.iload 4, 2) := by decide +kernel
theorem dL_turns_51 : decode cL_turns 51 = .ok (.iconst 3, 1) := by decide +kernel
theorem dL_turns_52 : decode cL_turns 52 = .ok (.iconst 0, 1) := by decide +kernel
theorem dL_turns_53 : decode cL_turns 53 = .ok (.invokevirtual 9, 3) := by decide +kernel
theorem dL_turns_56 : decode cL_turns 56 = .ok (.aload_n 0, 1) := by decide +kernel
theorem dL_turns_57 : decode cL_turns 57 = .ok (.iload_n 1, 1) := by decide +kernel
theorem dL_turns_58 : decode cL_turns 58 = .ok (.iload_n 3, 1) := by decide +kernel
theorem dL_turns_59 : decode cL_turns 59 = .ok (.iconst 2, 1) := by decide +kernel
theorem dL_turns_60 : decode cL_turns 60 = .ok (.iconst 0, 1) := by decide +kernel
theorem dL_turns_61 : decode cL_turns 61 = .ok (.invokevirtual 9, 3) := by decide +kernel
theorem dL_turns_64 : decode cL_turns 64 = .ok (.if_icmp .ne 53, 3) := by decide +kernel
theorem dL_turns_67 : decode cL_turns 67 = .ok (.aload_n 0, 1) := by decide +kernel
theorem dL_turns_68 : decode cL_turns 68 = .ok (.iload_n 1, 1) := by decide +kernel
theorem dL_turns_69 : decode cL_turns 69 = .ok (.iload 4, 2) := by decide +kernel
theorem dL_turns_71 : decode cL_turns 71 = .ok (.iconst 0, 1) := by decide +kernel
theorem dL_turns_72 : decode cL_turns 72 = .ok (.iconst 0, 1) := by decide +kernel
theorem dL_turns_73 : decode cL_turns 73 = .ok (.invokevirtual 9, 3) := by decide +kernel
theorem dL_turns_76 : decode cL_turns 76 = .ok (.aload_n 0, 1) := by decide +kernel
theorem dL_turns_77 : decode cL_turns 77 = .ok (.iload_n 1, 1) := by decide +kernel
theorem dL_turns_78 : decode cL_turns 78 = .ok (.iload_n 3, 1) := by decide +kernel
theorem dL_turns_79 : decode cL_turns 79 = .ok (.iconst 3, 1) := by decide +kernel
theorem dL_turns_80 : decode cL_turns 80 = .ok (.iconst 0, 1) := by decide +kernel
theorem dL_turns_81 : decode cL_turns 81 = .ok (.invokevirtual 9, 3) := by decide +kernel
theorem dL_turns_84 : decode cL_turns 84 = .ok (.invokestatic 15, 3) := by decide +kernel
theorem dL_turns_87 : decode cL_turns 87 = .ok (.if_icmp .ne 30, 3) := by decide +kernel
theorem dL_turns_90 : decode cL_turns 90 = .ok (.aload_n 0, 1) := by decide +kernel
theorem dL_turns_91 : decode cL_turns 91 = .ok (.iload_n 1, 1) := by decide +kernel
theorem dL_turns_92 : decode cL_turns 92 = .ok (.iload 4, 2) := by decide +kernel
theorem dL_turns_94 : decode cL_turns 94 = .ok (.iconst 2, 1) := by decide +kernel
theorem dL_turns_95 : decode cL_turns 95 = .ok (.iconst 0, 1) := by decide +kernel
theorem dL_turns_96 : decode cL_turns 96 = .ok (.invokevirtual 9, 3) := by decide +kernel
theorem dL_turns_99 : decode cL_turns 99 = .ok (.aload_n 0, 1) := by decide +kernel
theorem dL_turns_100 : decode cL_turns 100 = .ok (.iload_n 1, 1) := by decide +kernel
theorem dL_turns_101 : decode cL_turns 101 = .ok (.iload_n 3, 1) := by decide +kernel
theorem dL_turns_102 : decode cL_turns 102 = .ok (.iconst 1, 1) := by decide +kernel
theorem dL_turns_103 : decode cL_turns 103 = .ok (.iconst 0, 1) := by decide +kernel
theorem dL_turns_104 : decode cL_turns 104 = .ok (.invokevirtual 9, 3) := by decide +kernel
theorem dL_turns_107 : decode cL_turns 107 = .ok (.invokestatic 15, 3) := by decide +kernel
theorem dL_turns_110 : decode cL_turns 110 = .ok (.if_icmp .ne 7, 3) := by decide +kernel
theorem dL_turns_113 : decode cL_turns 113 = .ok (.iconst 1, 1) := by decide +kernel
theorem dL_turns_114 : decode cL_turns 114 = .ok (.goto 4, 3) := by decide +kernel
theorem dL_turns_117 : decode cL_turns 117 = .ok (.iconst 0, 1) := by decide +kernel
theorem dL_turns_118 : decode cL_turns 118 = .ok (.istore_n 2, 1) := by decide +kernel
theorem dL_turns_119 : decode cL_turns 119 = .ok (.iconst 0, 1) := by decide +kernel
theorem dL_turns_120 : decode cL_turns 120 = .ok (.istore 5, 2) := by decide +kernel
theorem dL_turns_122 : decode cL_turns 122 = .ok (.iload 5, 2) := by decide +kernel
theorem dL_turns_124 : decode cL_turns 124 = .ok (.iconst 4, 1) := by decide +kernel
theorem dL_turns_125 : decode cL_turns 125 = .ok (.if_icmp .ge 72, 3) := by decide +kernel
theorem dL_turns_128 : decode cL_turns 128 = .ok (.iload_n 2, 1) := by decide +kernel
theorem dL_turns_129 : decode cL_turns 129 = .ok (.ifCond .eq 68, 3) := by decide +kernel
theorem dL_turns_132 : decode cL_turns 132 = .ok (.aload_n 0, 1) := by decide +kernel
theorem dL_turns_133 : decode cL_turns 133 = .ok (.iload_n 1, 1) := by decide +kernel
theorem dL_turns_134 : decode cL_turns 134 = .ok (.iload 4, 2) := by decide +kernel
theorem dL_turns_136 : decode cL_turns 136 = .ok (.iload 5, 2) := by decide +kernel
theorem dL_turns_138 : decode cL_turns 138 = .ok (.iconst 1, 1) := by decide +kernel
theorem dL_turns_139 : decode cL_turns 139 = .ok (.iadd, 1) := by decide +kernel
theorem dL_turns_140 : decode cL_turns 140 = .ok (.iconst 4, 1) := by decide +kernel
theorem dL_turns_141 : decode cL_turns 141 = .ok (.irem, 1) := by decide +kernel
theorem dL_turns_142 : decode cL_turns 142 = .ok (.iconst 1, 1) := by decide +kernel
theorem dL_turns_143 : decode cL_turns 143 = .ok (.invokevirtual 9, 3) := by decide +kernel
theorem dL_turns_146 : decode cL_turns 146 = .ok (.aload_n 0, 1) := by decide +kernel
theorem dL_turns_147 : decode cL_turns 147 = .ok (.iload_n 1, 1) := by decide +kernel
theorem dL_turns_148 : decode cL_turns 148 = .ok (.iload_n 3, 1) := by decide +kernel
theorem dL_turns_149 : decode cL_turns 149 = .ok (.iload 5, 2) := by decide +kernel
theorem dL_turns_151 : decode cL_turns 151 = .ok (.iconst 1, 1) := by decide +kernel
theorem dL_turns_152 : decode cL_turns 152 = .ok (.invokevirtual 9, 3) := by decide +kernel
theorem dL_turns_155 : decode cL_turns 155 = .ok (.if_icmp .ne 34, 3) := by decide +kernel
theorem dL_turns_158 : decode cL_turns 158 = .ok (.aload_n 0, 1) := by decide +kernel
theorem dL_turns_159 : decode cL_turns 159 = .ok (.iload_n 1, 1) := by decide +kernel
theorem dL_turns_160 : decode cL_turns 160 = .ok (.iconst 0, 1) := by decide +kernel
theorem dL_turns_161 : decode cL_turns 161 = .ok (.invokevirtual 21, 3) := by decide +kernel
theorem dL_turns_164 : decode cL_turns 164 = .ok (.iconst 1, 1) := by decide +kernel
theorem dL_turns_165 : decode cL_turns 165 = .ok (.if_icmp .eq 20, 3) := by decide +kernel
theorem dL_turns_168 : decode cL_turns 168 = .ok (.iload_n 3, 1) := by decide +kernel
theorem dL_turns_169 : decode cL_turns 169 = .ok (.iconst 4, 1) := by decide +kernel
theorem dL_turns_170 : decode cL_turns 170 = .ok (.if_icmp .lt 15, 3) := by decide +kernel
theorem dL_turns_173 : decode cL_turns 173 = .ok (.aload_n 0, 1) := by decide +kernel
theorem dL_turns_174 : decode cL_turns 174 = .ok (.iload_n 1, 1) := by decide +kernel
theorem dL_turns_175 : decode cL_turns 175 = .ok (.iload_n 3, 1) := by decide +kernel
theorem dL_turns_176 : decode cL_turns 176 = .ok (.iload 5, 2) := by decide +kernel
theorem dL_turns_178 : decode cL_turns 178 = .ok (.iconst 1, 1) := by decide +kernel
theorem dL_turns_179 : decode cL_turns 179 = .ok (.invokevirtual 9, 3) := by decide +kernel
theorem dL_turns_182 : decode cL_turns 182 = .ok (.ifCond .ne 7, 3) := by decide +kernel
theorem dL_turns_185 : decode cL_turns 185 = .ok (.iconst 1, 1) := by decide +kernel
theorem dL_turns_186 : decode cL_turns 186 = .ok (.goto 4, 3) := by decide +kernel
theorem dL_turns_189 : decode cL_turns 189 = .ok (.iconst 0, 1) := by decide +kernel
theorem dL_turns_190 : decode cL_turns 190 = .ok (.istore_n 2, 1) := by decide +kernel
theorem dL_turns_191 : decode cL_turns 191 = .ok (.iinc 5 1, 3) := by decide +kernel
theorem dL_turns_194 : decode cL_turns 194 = .ok (.goto (-72), 3) := by decide +kernel
theorem dL_turns_197 : decode cL_turns 197 = .ok (.iinc 3 1, 3) := by decide +kernel
theorem dL_turns_200 : decode cL_turns 200 = .ok (.goto (-196), 3) := by decide +kernel
theorem dL_turns_203 : decode cL_turns 203 = .ok (.iload_n 2, 1) := by decide +kernel
theorem dL_turns_204 : decode cL_turns 204 = .ok (.ifCond .eq 70, 3) := by decide +kernel
theorem dL_turns_207 : decode cL_turns 207 = .ok (.aload_n 0, 1) := by decide +kernel
theorem dL_turns_208 : decode cL_turns 208 = .ok (.iload_n 1, 1) := by decide +kernel
theorem dL_turns_209 : decode cL_turns 209 = .ok (.iconst 4, 1) := by decide +kernel
theorem dL_turns_210 : decode cL_turns 210 = .ok (.iconst 0, 1) := by decide +kernel
theorem dL_turns_211 : decode cL_turns 211 = .ok (.iconst 0, 1) := by decide +kernel
theorem dL_turns_212 : decode cL_turns 212 = .ok (.invokevirtual 9, 3) := by decide +kernel
theorem dL_turns_215 : decode cL_turns 215 = .ok (.aload_n 0, 1) := by decide +kernel
theorem dL_turns_216 : decode cL_turns 216 = .ok (.iload_n 1, 1) := by decide +kernel
theorem dL_turns_217 : decode cL_turns 217 = .ok (.iconst 0, 1) := by decide +kernel
theorem dL_turns_218 : decode cL_turns 218 = .ok (.iconst 0, 1) := by decide +kernel
theorem dL_turns_219 : decode cL_turns 219 = .ok (.iconst 0, 1) := by decide +kernel
theorem dL_turns_220 : decode cL_turns 220 = .ok (.invokevirtual 9, 3) := by decide +kernel
theorem dL_turns_223 : decode cL_turns 223 = .ok (.invokestatic 15, 3) := by decide +kernel
theorem dL_turns_226 : decode cL_turns 226 = .ok (.if_icmp .ne 48, 3) := by decide +kernel
theorem dL_turns_229 : decode cL_turns 229 = .ok (.aload_n 0, 1) := by decide +kernel
theorem dL_turns_230 : decode cL_turns 230 = .ok (.iload_n 1, 1) := by decide +kernel
theorem dL_turns_231 : decode cL_turns 231 = .ok (.iconst 4, 1) := by decide +kernel
theorem dL_turns_232 : decode cL_turns 232 = .ok (.iconst 1, 1) := by decide +kernel
theorem dL_turns_233 : decode cL_turns 233 = .ok (.iconst 0, 1) := by decide +kernel
theorem dL_turns_234 : decode cL_turns 234 = .ok (.invokevirtual 9, 3) := by decide +kernel
theorem dL_turns_237 : decode cL_turns 237 = .ok (.aload_n 0, 1) := by decide +kernel
theorem dL_turns_238 : decode cL_turns 238 = .ok (.iload_n 1, 1) := by decide +kernel
theorem dL_turns_239 : decode cL_turns 239 = .ok (.iconst 0, 1) := by decide +kernel
theorem dL_turns_240 : decode cL_turns 240 = .ok (.iconst 3, 1) := by decide +kernel
theorem dL_turns_241 : decode cL_turns 241 = .ok (.iconst 0, 1) := by decide +kernel
theorem dL_turns_242 : decode cL_turns 242 = .ok (.invokevirtual 9, 3) := by decide +kernel
theorem dL_turns_245 : decode cL_turns 245 = .ok (.if_icmp .ne 29, 3) := by decide +kernel
theorem dL_turns_248 : decode cL_turns 248 = .ok (.aload_n 0, 1) := by decide +kernel
theorem dL_turns_249 : decode cL_turns 249 = .ok (.iload_n 1, 1) := by decide +kernel
theorem dL_turns_250 : decode cL_turns 250 = .ok (.iconst 4, 1) := by decide +kernel
theorem dL_turns_251 : decode cL_turns 251 = .ok (.iconst 2, 1) := by decide +kernel
theorem dL_turns_252 : decode cL_turns 252 = .ok (.iconst 0, 1) := by decide +kernel
theorem dL_turns_253 : decode cL_turns 253 = .ok (.invokevirtual 9, 3) := by decide +kernel
theorem dL_turns_256 : decode cL_turns 256 = .ok (.aload_n 0, 1) := by decide +kernel
theorem dL_turns_257 : decode cL_turns 257 = .ok (.iload_n 1, 1) := by decide +kernel
theorem dL_turns_258 : decode cL_turns 258 = .ok (.iconst 0, 1) := by decide +kernel
theorem dL_turns_259 : decode cL_turns 259 = .ok (.iconst 2, 1) := by decide +kernel
theorem dL_turns_260 : decode cL_turns 260 = .ok (.iconst 0, 1) := by decide +kernel
theorem dL_turns_261 : decode cL_turns 261 = .ok (.invokevirtual 9, 3) := by decide +kernel
theorem dL_turns_264 : decode cL_turns 264 = .ok (.invokestatic 15, 3) := by decide +kernel
theorem dL_turns_267 : decode cL_turns 267 = .ok (.if_icmp .ne 7, 3) := by decide +kernel
theorem dL_turns_270 : decode cL_turns 270 = .ok (.iconst 1, 1) := by decide +kernel
theorem dL_turns_271 : decode cL_turns 271 = .ok (.goto 4, 3) := by decide +kernel
theorem dL_turns_274 : decode cL_turns 274 = .ok (.iconst 0, 1) := by decide +kernel
theorem dL_turns_275 : decode cL_turns 275 = .ok (.ireturn, 1) := by decide +kernel
theorem dL_holds_0 : decode cL_holds 0 = .ok (.aload_n 0, 1) := by decide +kernel
theorem dL_holds_1 : decode cL_holds 1 = .ok (.iconst 2, 1) := by decide +kernel
theorem dL_holds_2 : decode cL_holds 2 = .ok (.invokevirtual 25, 3) := by decide +kernel
theorem dL_holds_5 : decode cL_holds 5 = .ok (.istore_n 1, 1) := by decide +kernel
theorem dL_holds_6 : decode cL_holds 6 = .ok (.aload_n 0, 1) := by decide +kernel
theorem dL_holds_7 : decode cL_holds 7 = .ok (.iconst 3, 1) := by decide +kernel
theorem dL_holds_8 : decode cL_holds 8 = .ok (.invokevirtual 25, 3) := by decide +kernel
theorem dL_holds_11 : decode cL_holds 11 = .ok (.istore_n 2, 1) := by decide +kernel
theorem dL_holds_12 : decode cL_holds 12 = .ok (.iconst 0, 1) := by decide +kernel
theorem dL_holds_13 : decode cL_holds 13 = .ok (.istore_n 3, 1) := by decide +kernel
theorem dL_holds_14 : decode cL_holds 14 = .ok (.iconst 0, 1) := by decide +kernel
theorem dL_holds_15 : decode cL_holds 15 = .ok (.istore 4, 2) := by decide +kernel
theorem dL_holds_17 : decode cL_holds 17 = .ok (.iconst 0, 1) := by decide +kernel
theorem dL_holds_18 : decode cL_holds 18 = .ok (.istore 5, 2) := by decide +kernel
theorem dL_holds_20 : decode cL_holds 20 = .ok (.aload_n 0, 1) := by decide +kernel
theorem dL_holds_21 : decode cL_holds 21 = .ok (.iconst 1, 1) := by decide +kernel
theorem dL_holds_22 : decode cL_holds 22 = .ok (.invokevirtual 25, 3) := by decide +kernel
theorem dL_holds_25 : decode cL_holds 25 = .ok (.aload_n 0, 1) := by decide +kernel
theorem dL_holds_26 : decode cL_holds 26 = .ok (.bipush 9, 2) := by decide +kernel
theorem dL_holds_28 : decode cL_holds 28 = .ok (.invokevirtual 25, 3) := by decide +kernel
theorem dL_holds_31 : decode cL_holds 31 = .ok (.iadd, 1) := by decide +kernel
theorem dL_holds_32 : decode cL_holds 32 = .ok (.iload_n 1, 1) := by decide +kernel
theorem dL_holds_33 : decode cL_holds 33 = .ok (.iload_n 2, 1) := by decide +kernel
theorem dL_holds_34 : decode cL_holds 34 = .ok (.imul, 1) := by decide +kernel
theorem dL_holds_35 : decode cL_holds 35 = .ok (.if_icmp .ne 34, 3) := by decide +kernel
theorem dL_holds_38 : decode cL_holds 38 = .ok (.aload_n 0, 1) := by decide +kernel
theorem dL_holds_39 : decode cL_holds 39 = .ok (.bipush 6, 2) := by decide +kernel
theorem dL_holds_41 : decode cL_holds 41 = .ok (.invokevirtual 25, 3) := by decide +kernel
theorem dL_holds_44 : decode cL_holds 44 = .ok (.aload_n 0, 1) := by decide +kernel
theorem dL_holds_45 : decode cL_holds 45 = .ok (.iconst 5, 1) := by decide +kernel
theorem dL_holds_46 : decode cL_holds 46 = .ok (.invokevirtual 25, 3) := by decide +kernel
theorem dL_holds_49 : decode cL_holds 49 = .ok (.if_icmp .gt 20, 3) := by decide +kernel
theorem dL_holds_52 : decode cL_holds 52 = .ok (.aload_n 0, 1) := by decide +kernel
theorem dL_holds_53 : decode cL_holds 53 = .ok (.iconst 4, 1) := by decide +kernel
theorem dL_holds_54 : decode cL_holds 54 = .ok (.invokevirtual 25, 3) := by decide +kernel
theorem dL_holds_57 : decode cL_holds 57 = .ok (.aload_n 0, 1) := by decide +kernel
theorem dL_holds_58 : decode cL_holds 58 = .ok (.iconst 1, 1) := by decide +kernel
theorem dL_holds_59 : decode cL_holds 59 = .ok (.invokevirtual 25, 3) := by decide +kernel
theorem dL_holds_62 : decode cL_holds 62 = .ok (.if_icmp .gt 7, 3) := by decide +kernel
theorem dL_holds_65 : decode cL_holds 65 = .ok (.iconst 1, 1) := by decide +kernel
theorem dL_holds_66 : decode cL_holds 66 = .ok (.goto 4, 3) := by decide +kernel
theorem dL_holds_69 : decode cL_holds 69 = .ok (.iconst 0, 1) := by decide +kernel
theorem dL_holds_70 : decode cL_holds 70 = .ok (.istore 6, 2) := by decide +kernel
theorem dL_holds_72 : decode cL_holds 72 = .ok (.iconst 0, 1) := by decide +kernel
theorem dL_holds_73 : decode cL_holds 73 = .ok (.istore 7, 2) := by decide +kernel
theorem dL_holds_75 : decode cL_holds 75 = .ok (.iload 7, 2) := by decide +kernel
theorem dL_holds_77 : decode cL_holds 77 = .ok (.iload_n 1, 1) := by decide +kernel
theorem dL_holds_78 : decode cL_holds 78 = .ok (.iload_n 2, 1) := by decide +kernel
theorem dL_holds_79 : decode cL_holds 79 = .ok (.imul, 1) := by decide +kernel
theorem dL_holds_80 : decode cL_holds 80 = .ok (.if_icmp .ge 185, 3) := by decide +kernel
theorem dL_holds_83 : decode cL_holds 83 = .ok (.iload 6, 2) := by decide +kernel
theorem dL_holds_85 : decode cL_holds 85 = .ok (.ifCond .eq 180, 3) := by decide +kernel
theorem dL_holds_88 : decode cL_holds 88 = .ok (.aload_n 0, 1) := by decide +kernel
theorem dL_holds_89 : decode cL_holds 89 = .ok (.iload 7, 2) := by decide +kernel
theorem dL_holds_91 : decode cL_holds 91 = .ok (.invokevirtual 28, 3) := by decide +kernel
theorem dL_holds_94 : decode cL_holds 94 = .ok (.istore 8, 2) := by decide +kernel
theorem dL_holds_96 : decode cL_holds 96 = .ok (.iload_n 3, 1) := by decide +kernel
theorem dL_holds_97 : decode cL_holds 97 = .ok (.iload 8, 2) := by decide +kernel
theorem dL_holds_99 : decode cL_holds 99 = .ok (.ifCond .ge 7, 3) := by decide +kernel
theorem dL_holds_102 : decode cL_holds 102 = .ok (.iconst 0, 1) := by decide +kernel
theorem dL_holds_103 : decode cL_holds 103 = .ok (.goto 4, 3) := by decide +kernel
theorem dL_holds_106 : decode cL_holds 106 = .ok (.iconst 1, 1) := by decide +kernel
theorem dL_holds_107 : decode cL_holds 107 = .ok (.iadd, 1) := by decide +kernel
theorem dL_holds_108 : decode cL_holds 108 = .ok (.istore_n 3, 1) := by decide +kernel
theorem dL_holds_109 : decode cL_holds 109 = .ok (.iload 8, 2) := by decide +kernel
theorem dL_holds_111 : decode cL_holds 111 = .ok (.ifCond .lt 15, 3) := by decide +kernel
theorem dL_holds_114 : decode cL_holds 114 = .ok (.aload_n 0, 1) := by decide +kernel
theorem dL_holds_115 : decode cL_holds 115 = .ok (.iload 8, 2) := by decide +kernel
theorem dL_holds_117 : decode cL_holds 117 = .ok (.iconst 2, 1) := by decide +kernel
theorem dL_holds_118 : decode cL_holds 118 = .ok (.invokevirtual 21, 3) := by decide +kernel
theorem dL_holds_121 : decode cL_holds 121 = .ok (.iload 7, 2) := by decide +kernel
theorem dL_holds_123 : decode cL_holds 123 = .ok (.if_icmp .ne 7, 3) := by decide +kernel
theorem dL_holds_126 : decode cL_holds 126 = .ok (.iconst 1, 1) := by decide +kernel
theorem dL_holds_127 : decode cL_holds 127 = .ok (.goto 4, 3) := by decide +kernel
theorem dL_holds_130 : decode cL_holds 130 = .ok (.iconst 0, 1) := by decide +kernel
theorem dL_holds_131 : decode cL_holds 131 = .ok (.istore 6, 2) := by decide +kernel
theorem dL_holds_133 : decode cL_holds 133 = .ok (.iload 8, 2) := by decide +kernel
theorem dL_holds_135 : decode cL_holds 135 = .ok (.ifCond .lt 61, 3) := by decide +kernel
theorem dL_holds_138 : decode cL_holds 138 = .ok (.iload 7, 2) := by decide +kernel
theorem dL_holds_140 : decode cL_holds 140 = .ok (.iload_n 1, 1) := by decide +kernel
theorem dL_holds_141 : decode cL_holds 141 = .ok (.irem, 1) := by decide +kernel
theorem dL_holds_142 : decode cL_holds 142 = .ok (.iload_n 1, 1) := by decide +kernel
theorem dL_holds_143 : decode cL_holds 143 = .ok (.iconst 1, 1) := by decide +kernel
theorem dL_holds_144 : decode cL_holds 144 = .ok (.isub, 1) := by decide +kernel
theorem dL_holds_145 : decode cL_holds 145 = .ok (.if_icmp .ge 51, 3) := by decide +kernel
theorem dL_holds_148 : decode cL_holds 148 = .ok (.iload 6, 2) := by decide +kernel
theorem dL_holds_150 : decode cL_holds 150 = .ok (.ifCond .eq 43, 3) := by decide +kernel
theorem dL_holds_153 : decode cL_holds 153 = .ok (.aload_n 0, 1) := by decide +kernel
theorem dL_holds_154 : decode cL_holds 154 = .ok (.iload 7, 2) := by decide +kernel
theorem dL_holds_156 : decode cL_holds 156 = .ok (.iconst 1, 1) := by decide +kernel
theorem dL_holds_157 : decode cL_holds 157 = .ok (.invokevirtual 31, 3) := by decide +kernel
theorem dL_holds_160 : decode cL_holds 160 = .ok (.aload_n 0, 1) := by decide +kernel
theorem dL_holds_161 : decode cL_holds 161 = .ok (.iload 7, 2) := by decide +kernel
theorem dL_holds_163 : decode cL_holds 163 = .ok (.iconst 1, 1) := by decide +kernel
theorem dL_holds_164 : decode cL_holds 164 = .ok (.iadd, 1) := by decide +kernel
theorem dL_holds_165 : decode cL_holds 165 = .ok (.invokevirtual 28, 3) := by decide +kernel
theorem dL_holds_168 : decode cL_holds 168 = .ok (.ifCond .ge 9, 3) := by decide +kernel
theorem dL_holds_171 : decode cL_holds 171 = .ok (.sipush (-1004), 3) := by decide +kernel
theorem dL_holds_174 : decode cL_holds 174 = .ok (.goto 12, 3) := by decide +kernel
theorem dL_holds_177 : decode cL_holds 177 = .ok (.aload_n 0, 1) := by decide +kernel
theorem dL_holds_178 : decode cL_holds 178 = .ok (.iload 7, 2) := by decide +kernel
theorem dL_holds_180 : decode cL_holds 180 = .ok (.iconst 1, 1) := by decide +kernel
theorem dL_holds_181 : decode cL_holds 181 = .ok (.iadd, 1) := by decide +kernel
theorem dL_holds_182 : decode cL_holds 182 = .ok (.iconst 3, 1) := by decide +kernel
theorem dL_holds_183 : decode cL_holds 183 = .ok (.invokevirtual 31, 3) := by decide +kernel
theorem dL_holds_186 : decode cL_holds 186 = .ok (.if_icmp .ne 7, 3) := by decide +kernel
theorem dL_holds_189 : decode cL_holds 189 = .ok (.iconst 1, 1) := by decide +kernel
theorem dL_holds_190 : decode cL_holds 190 = .ok (.goto 4, 3) := by decide +kernel
theorem dL_holds_193 : decode cL_holds 193 = .ok (.iconst 0, 1) := by decide +kernel
theorem dL_holds_194 : decode cL_holds 194 = .ok (.istore 6, 2) := by decide +kernel
theorem dL_holds_196 : decode cL_holds 196 = .ok (.iload 8, 2) := by decide +kernel
theorem dL_holds_198 : decode cL_holds 198 = .ok (.ifCond .lt 61, 3) := by decide +kernel
theorem dL_holds_201 : decode cL_holds 201 = .ok (.iload 7, 2) := by decide +kernel
theorem dL_holds_203 : decode cL_holds 203 = .ok (.iload_n 1, 1) := by decide +kernel
theorem dL_holds_204 : decode cL_holds 204 = .ok (.iadd, 1) := by decide +kernel
theorem dL_holds_205 : decode cL_holds 205 = .ok (.iload_n 1, 1) := by decide +kernel
theorem dL_holds_206 : decode cL_holds 206 = .ok (.iload_n 2, 1) := by decide +kernel
theorem dL_holds_207 : decode cL_holds 207 = .ok (.imul, 1) := by decide +kernel
theorem dL_holds_208 : decode cL_holds 208 = .ok (.if_icmp .ge 51, 3) := by decide +kernel
theorem dL_holds_211 : decode cL_holds 211 = .ok (.iload 6, 2) := by decide +kernel
theorem dL_holds_213 : decode cL_holds 213 = .ok (.ifCond .eq 43, 3) := by decide +kernel
theorem dL_holds_216 : decode cL_holds 216 = .ok (.aload_n 0, 1) := by decide +kernel
theorem dL_holds_217 : decode cL_holds 217 = .ok (.iload 7, 2) := by decide +kernel
theorem dL_holds_219 : decode cL_holds 219 = .ok (.iconst 2, 1) := by decide +kernel
theorem dL_holds_220 : decode cL_holds 220 = .ok (.invokevirtual 31, 3) := by decide +kernel
theorem dL_holds_223 : decode cL_holds 223 = .ok (.aload_n 0, 1) := by decide +kernel
theorem dL_holds_224 : decode cL_holds 224 = .ok (.iload 7, 2) := by decide +kernel
theorem dL_holds_226 : decode cL_holds 226 = .ok (.iload_n 1, 1) := by decide +kernel
theorem dL_holds_227 : decode cL_holds 227 = .ok (.iadd, 1) := by decide +kernel
theorem dL_holds_228 : decode cL_holds 228 = .ok (.invokevirtual 28, 3) := by decide +kernel
theorem dL_holds_231 : decode cL_holds 231 = .ok (.ifCond .ge 9, 3) := by decide +kernel
theorem dL_holds_234 : decode cL_holds 234 = .ok (.sipush (-1004), 3) := by decide +kernel
theorem dL_holds_237 : decode cL_holds 237 = .ok (.goto 12, 3) := by decide +kernel
theorem dL_holds_240 : decode cL_holds 240 = .ok (.aload_n 0, 1) := by decide +kernel
theorem dL_holds_241 : decode cL_holds 241 = .ok (.iload 7, 2) := by decide +kernel
theorem dL_holds_243 : decode cL_holds 243 = .ok (.iload_n 1, 1) := by decide +kernel
theorem dL_holds_244 : decode cL_holds 244 = .ok (.iadd, 1) := by decide +kernel
theorem dL_holds_245 : decode cL_holds 245 = .ok (.iconst 0, 1) := by decide +kernel
theorem dL_holds_246 : decode cL_holds 246 = .ok (.invokevirtual 31, 3) := by decide +kernel
theorem dL_holds_249 : decode cL_holds 249 = .ok (.if_icmp .ne 7, 3) := by decide +kernel
theorem dL_holds_252 : decode cL_holds 252 = .ok (.iconst 1, 1) := by decide +kernel
theorem dL_holds_253 : decode cL_holds 253 = .ok (.goto 4, 3) := by decide +kernel
theorem dL_holds_256 : decode cL_holds 256 = .ok (.iconst 0, 1) := by decide +kernel
theorem dL_holds_257 : decode cL_holds 257 = .ok (.istore 6, 2) := by decide +kernel
theorem dL_holds_259 : decode cL_holds 259 = .ok (.iinc 7 1, 3) := by decide +kernel
theorem dL_holds_262 : decode cL_holds 262 = .ok (.goto (-187), 3) := by decide +kernel
theorem dL_holds_265 : decode cL_holds 265 = .ok (.iconst 0, 1) := by decide +kernel
theorem dL_holds_266 : decode cL_holds 266 = .ok (.istore 7, 2) := by decide +kernel
theorem dL_holds_268 : decode cL_holds 268 = .ok (.iconst 0, 1) := by decide +kernel
theorem dL_holds_269 : decode cL_holds 269 = .ok (.istore 8, 2) := by decide +kernel
theorem dL_holds_271 : decode cL_holds 271 = .ok (.iload 8, 2) := by decide +kernel
theorem dL_holds_273 : decode cL_holds 273 = .ok (.aload_n 0, 1) := by decide +kernel
theorem dL_holds_274 : decode cL_holds 274 = .ok (.iconst 0, 1) := by decide +kernel
theorem dL_holds_275 : decode cL_holds 275 = .ok (.invokevirtual 25, 3) := by decide +kernel
theorem dL_holds_278 : decode cL_holds 278 = .ok (.if_icmp .ge 66, 3) := by decide +kernel
theorem dL_holds_281 : decode cL_holds 281 = .ok (.iload 6, 2) := by decide +kernel
theorem dL_holds_283 : decode cL_holds 283 = .ok (.ifCond .eq 61, 3) := by decide +kernel
theorem dL_holds_286 : decode cL_holds 286 = .ok (.iload 4, 2) := by decide +kernel
theorem dL_holds_288 : decode cL_holds 288 = .ok (.aload_n 0, 1) := by decide +kernel
theorem dL_holds_289 : decode cL_holds 289 = .ok (.iload 8, 2) := by decide +kernel
theorem dL_holds_291 : decode cL_holds 291 = .ok (.iconst 2, 1) := by decide +kernel
theorem dL_holds_292 : decode cL_holds 292 = .ok (.invokevirtual 21, 3) := by decide +kernel
theorem dL_holds_295 : decode cL_holds 295 = .ok (.ifCond .ge 7, 3) := by decide +kernel
theorem dL_holds_298 : decode cL_holds 298 = .ok (.iconst 0, 1) := by decide +kernel
theorem dL_holds_299 : decode cL_holds 299 = .ok (.goto 10, 3) := by decide +kernel
theorem dL_holds_302 : decode cL_holds 302 = .ok (.aload_n 0, 1) := by decide +kernel
theorem dL_holds_303 : decode cL_holds 303 = .ok (.iload 8, 2) := by decide +kernel
theorem dL_holds_305 : decode cL_holds 305 = .ok (.iconst 4, 1) := by decide +kernel
theorem dL_holds_306 : decode cL_holds 306 = .ok (.invokevirtual 21, 3) := by decide +kernel
theorem dL_holds_309 : decode cL_holds 309 = .ok (.iadd, 1) := by decide +kernel
theorem dL_holds_310 : decode cL_holds 310 = .ok (.istore 4, 2) := by decide +kernel
theorem dL_holds_312 : decode cL_holds 312 = .ok (.iload 5, 2) := by decide +kernel
theorem dL_holds_314 : decode cL_holds 314 = .ok (.aload_n 0, 1) := by decide +kernel
theorem dL_holds_315 : decode cL_holds 315 = .ok (.iload 8, 2) := by decide +kernel
theorem dL_holds_317 : decode cL_holds 317 = .ok (.iconst 2, 1) := by decide +kernel
theorem dL_holds_318 : decode cL_holds 318 = .ok (.invokevirtual 21, 3) := by decide +kernel
theorem dL_holds_321 : decode cL_holds 321 = .ok (.ifCond .ge 7, 3) := by decide +kernel
theorem dL_holds_324 : decode cL_holds 324 = .ok (.iconst 0, 1) := by decide +kernel
theorem dL_holds_325 : decode cL_holds 325 = .ok (.goto 10, 3) := by decide +kernel
theorem dL_holds_328 : decode cL_holds 328 = .ok (.aload_n 0, 1) := by decide +kernel
theorem dL_holds_329 : decode cL_holds 329 = .ok (.iload 8, 2) := by decide +kernel
theorem dL_holds_331 : decode cL_holds 331 = .ok (.iconst 5, 1) := by decide +kernel
theorem dL_holds_332 : decode cL_holds 332 = .ok (.invokevirtual 21, 3) := by decide +kernel
theorem dL_holds_335 : decode cL_holds 335 = .ok (.iadd, 1) := by decide +kernel
theorem dL_holds_336 : decode cL_holds 336 = .ok (.istore 5, 2) := by decide +kernel
theorem dL_holds_338 : decode cL_holds 338 = .ok (.iinc 8 1, 3) := by decide +kernel
theorem dL_holds_341 : decode cL_holds 341 = .ok (.goto (-70), 3) := by decide +kernel
theorem dL_holds_344 : decode cL_holds 344 = .ok (.iconst 0, 1) := by decide +kernel
theorem dL_holds_345 : decode cL_holds 345 = .ok (.istore 8, 2) := by decide +kernel
theorem dL_holds_347 : decode cL_holds 347 = .ok (.iload 8, 2) := by decide +kernel
theorem dL_holds_349 : decode cL_holds 349 = .ok (.aload_n 0, 1) := by decide +kernel
theorem dL_holds_350 : decode cL_holds 350 = .ok (.iconst 4, 1) := by decide +kernel
theorem dL_holds_351 : decode cL_holds 351 = .ok (.invokevirtual 25, 3) := by decide +kernel
theorem dL_holds_354 : decode cL_holds 354 = .ok (.if_icmp .ge 138, 3) := by decide +kernel
theorem dL_holds_357 : decode cL_holds 357 = .ok (.iload 6, 2) := by decide +kernel
theorem dL_holds_359 : decode cL_holds 359 = .ok (.ifCond .eq 133, 3) := by decide +kernel
theorem dL_holds_362 : decode cL_holds 362 = .ok (.iconst 0, 1) := by decide +kernel
theorem dL_holds_363 : decode cL_holds 363 = .ok (.istore 9, 2) := by decide +kernel
theorem dL_holds_365 : decode cL_holds 365 = .ok (.aload_n 0, 1) := by decide +kernel
theorem dL_holds_366 : decode cL_holds 366 = .ok (.iload 8, 2) := by decide +kernel
theorem dL_holds_368 : decode cL_holds 368 = .ok (.iload 9, 2) := by decide +kernel
theorem dL_holds_370 : decode cL_holds 370 = .ok (.invokevirtual 34, 3) := by decide +kernel
theorem dL_holds_373 : decode cL_holds 373 = .ok (.ifCond .lt 65, 3) := by decide +kernel
theorem dL_holds_376 : decode cL_holds 376 = .ok (.iload 6, 2) := by decide +kernel
theorem dL_holds_378 : decode cL_holds 378 = .ok (.ifCond .eq 51, 3) := by decide +kernel
theorem dL_holds_381 : decode cL_holds 381 = .ok (.aload_n 0, 1) := by decide +kernel
theorem dL_holds_382 : decode cL_holds 382 = .ok (.aload_n 0, 1) := by decide +kernel
theorem dL_holds_383 : decode cL_holds 383 = .ok (.iload 8, 2) := by decide +kernel
theorem dL_holds_385 : decode cL_holds 385 = .ok (.iload 9, 2) := by decide +kernel
theorem dL_holds_387 : decode cL_holds 387 = .ok (.invokevirtual 34, 3) := by decide +kernel
theorem dL_holds_390 : decode cL_holds 390 = .ok (.iconst 3, 1) := by decide +kernel
theorem dL_holds_391 : decode cL_holds 391 = .ok (.invokevirtual 21, 3) := by decide +kernel
theorem dL_holds_394 : decode cL_holds 394 = .ok (.iload 8, 2) := by decide +kernel
theorem dL_holds_396 : decode cL_holds 396 = .ok (.if_icmp .ne 33, 3) := by decide +kernel
theorem dL_holds_399 : decode cL_holds 399 = .ok (.iload 9, 2) := by decide +kernel
theorem dL_holds_401 : decode cL_holds 401 = .ok (.ifCond .eq 24, 3) := by decide +kernel
theorem dL_holds_404 : decode cL_holds 404 = .ok (.aload_n 0, 1) := by decide +kernel
theorem dL_holds_405 : decode cL_holds 405 = .ok (.iload 8, 2) := by decide +kernel
theorem dL_holds_407 : decode cL_holds 407 = .ok (.iload 9, 2) := by decide +kernel
theorem dL_holds_409 : decode cL_holds 409 = .ok (.invokevirtual 34, 3) := by decide +kernel
theorem dL_holds_412 : decode cL_holds 412 = .ok (.aload_n 0, 1) := by decide +kernel
theorem dL_holds_413 : decode cL_holds 413 = .ok (.iload 8, 2) := by decide +kernel
theorem dL_holds_415 : decode cL_holds 415 = .ok (.iload 9, 2) := by decide +kernel
theorem dL_holds_417 : decode cL_holds 417 = .ok (.iconst 1, 1) := by decide +kernel
theorem dL_holds_418 : decode cL_holds 418 = .ok (.isub, 1) := by decide +kernel
theorem dL_holds_419 : decode cL_holds 419 = .ok (.invokevirtual 34, 3) := by decide +kernel
theorem dL_holds_422 : decode cL_holds 422 = .ok (.if_icmp .le 7, 3) := by decide +kernel
theorem dL_holds_425 : decode cL_holds 425 = .ok (.iconst 1, 1) := by decide +kernel
theorem dL_holds_426 : decode cL_holds 426 = .ok (.goto 4, 3) := by decide +kernel
theorem dL_holds_429 : decode cL_holds 429 = .ok (.iconst 0, 1) := by decide +kernel
theorem dL_holds_430 : decode cL_holds 430 = .ok (.istore 6, 2) := by decide +kernel
theorem dL_holds_432 : decode cL_holds 432 = .ok (.iinc 9 1, 3) := by decide +kernel
theorem dL_holds_435 : decode cL_holds 435 = .ok (.goto (-70), 3) := by decide +kernel
theorem dL_holds_438 : decode cL_holds 438 = .ok (.iload 7, 2) := by decide +kernel
theorem dL_holds_440 : decode cL_holds 440 = .ok (.iload 9, 2) := by decide +kernel
theorem dL_holds_442 : decode cL_holds 442 = .ok (.iadd, 1) := by decide +kernel
theorem dL_holds_443 : decode cL_holds 443 = .ok (.istore 7, 2) := by decide +kernel
theorem dL_holds_445 : decode cL_holds 445 = .ok (.iload 6, 2) := by decide +kernel
theorem dL_holds_447 : decode cL_holds 447 = .ok (.ifCond .eq 36, 3) := by decide +kernel
theorem dL_holds_450 : decode cL_holds 450 = .ok (.iload 9, 2) := by decide +kernel
theorem dL_holds_452 : decode cL_holds 452 = .ok (.ifCond .le 31, 3) := by decide +kernel
theorem dL_holds_455 : decode cL_holds 455 = .ok (.iload 8, 2) := by decide +kernel
theorem dL_holds_457 : decode cL_holds 457 = .ok (.ifCond .eq 22, 3) := by decide +kernel
theorem dL_holds_460 : decode cL_holds 460 = .ok (.aload_n 0, 1) := by decide +kernel
theorem dL_holds_461 : decode cL_holds 461 = .ok (.iload 8, 2) := by decide +kernel
theorem dL_holds_463 : decode cL_holds 463 = .ok (.iconst 0, 1) := by decide +kernel
theorem dL_holds_464 : decode cL_holds 464 = .ok (.invokevirtual 34, 3) := by decide +kernel
theorem dL_holds_467 : decode cL_holds 467 = .ok (.aload_n 0, 1) := by decide +kernel
theorem dL_holds_468 : decode cL_holds 468 = .ok (.iload 8, 2) := by decide +kernel
theorem dL_holds_470 : decode cL_holds 470 = .ok (.iconst 1, 1) := by decide +kernel
theorem dL_holds_471 : decode cL_holds 471 = .ok (.isub, 1) := by decide +kernel
theorem dL_holds_472 : decode cL_holds 472 = .ok (.iconst 0, 1) := by decide +kernel
theorem dL_holds_473 : decode cL_holds 473 = .ok (.invokevirtual 34, 3) := by decide +kernel
theorem dL_holds_476 : decode cL_holds 476 = .ok (.if_icmp .le 7, 3) := by decide +kernel
theorem dL_holds_479 : decode cL_holds 479 = .ok (.iconst 1, 1) := by decide +kernel
theorem dL_holds_480 : decode cL_holds 480 = .ok (.goto 4, 3) := by decide +kernel
theorem dL_holds_483 : decode cL_holds 483 = .ok (.iconst 0, 1) := by decide +kernel
theorem dL_holds_484 : decode cL_holds 484 = .ok (.istore 6, 2) := by decide +kernel
theorem dL_holds_486 : decode cL_holds 486 = .ok (.iinc 8 1, 3) := by decide +kernel
theorem dL_holds_489 : decode cL_holds 489 = .ok (.goto (-142), 3) := by decide +kernel
theorem dL_holds_492 : decode cL_holds 492 = .ok (.iload 6, 2) := by decide +kernel
theorem dL_holds_494 : decode cL_holds 494 = .ok (.ifCond .eq 68, 3) := by decide +kernel
theorem dL_holds_497 : decode cL_holds 497 = .ok (.iload_n 3, 1) := by decide +kernel
theorem dL_holds_498 : decode cL_holds 498 = .ok (.aload_n 0, 1) := by decide +kernel
theorem dL_holds_499 : decode cL_holds 499 = .ok (.iconst 1, 1) := by decide +kernel
theorem dL_holds_500 : decode cL_holds 500 = .ok (.invokevirtual 25, 3) := by decide +kernel
theorem dL_holds_503 : decode cL_holds 503 = .ok (.if_icmp .ne 59, 3) := by decide +kernel
theorem dL_holds_506 : decode cL_holds 506 = .ok (.iload 7, 2) := by decide +kernel
theorem dL_holds_508 : decode cL_holds 508 = .ok (.iload_n 3, 1) := by decide +kernel
theorem dL_holds_509 : decode cL_holds 509 = .ok (.if_icmp .ne 53, 3) := by decide +kernel
theorem dL_holds_512 : decode cL_holds 512 = .ok (.iload 4, 2) := by decide +kernel
theorem dL_holds_514 : decode cL_holds 514 = .ok (.iconst 2, 1) := by decide +kernel
theorem dL_holds_515 : decode cL_holds 515 = .ok (.aload_n 0, 1) := by decide +kernel
theorem dL_holds_516 : decode cL_holds 516 = .ok (.bipush 6, 2) := by decide +kernel
theorem dL_holds_518 : decode cL_holds 518 = .ok (.invokevirtual 25, 3) := by decide +kernel
theorem dL_holds_521 : decode cL_holds 521 = .ok (.imul, 1) := by decide +kernel
theorem dL_holds_522 : decode cL_holds 522 = .ok (.aload_n 0, 1) := by decide +kernel
theorem dL_holds_523 : decode cL_holds 523 = .ok (.bipush 7, 2) := by decide +kernel
theorem dL_holds_525 : decode cL_holds 525 = .ok (.invokevirtual 25, 3) := by decide +kernel
theorem dL_holds_528 : decode cL_holds 528 = .ok (.iadd, 1) := by decide +kernel
theorem dL_holds_529 : decode cL_holds 529 = .ok (.if_icmp .ne 33, 3) := by decide +kernel
theorem dL_holds_532 : decode cL_holds 532 = .ok (.iload 5, 2) := by decide +kernel
theorem dL_holds_534 : decode cL_holds 534 = .ok (.iconst 2, 1) := by decide +kernel
theorem dL_holds_535 : decode cL_holds 535 = .ok (.aload_n 0, 1) := by decide +kernel
theorem dL_holds_536 : decode cL_holds 536 = .ok (.iconst 5, 1) := by decide +kernel
theorem dL_holds_537 : decode cL_holds 537 = .ok (.invokevirtual 25, 3) := by decide +kernel
theorem dL_holds_540 : decode cL_holds 540 = .ok (.aload_n 0, 1) := by decide +kernel
theorem dL_holds_541 : decode cL_holds 541 = .ok (.bipush 6, 2) := by decide +kernel
theorem dL_holds_543 : decode cL_holds 543 = .ok (.invokevirtual 25, 3) := by decide +kernel
theorem dL_holds_546 : decode cL_holds 546 = .ok (.isub, 1) := by decide +kernel
theorem dL_holds_547 : decode cL_holds 547 = .ok (.imul, 1) := by decide +kernel
theorem dL_holds_548 : decode cL_holds 548 = .ok (.aload_n 0, 1) := by decide +kernel
theorem dL_holds_549 : decode cL_holds 549 = .ok (.bipush 8, 2) := by decide +kernel
theorem dL_holds_551 : decode cL_holds 551 = .ok (.invokevirtual 25, 3) := by decide +kernel
theorem dL_holds_554 : decode cL_holds 554 = .ok (.iadd, 1) := by decide +kernel
theorem dL_holds_555 : decode cL_holds 555 = .ok (.if_icmp .ne 7, 3) := by decide +kernel
theorem dL_holds_558 : decode cL_holds 558 = .ok (.iconst 1, 1) := by decide +kernel
theorem dL_holds_559 : decode cL_holds 559 = .ok (.goto 4, 3) := by decide +kernel
theorem dL_holds_562 : decode cL_holds 562 = .ok (.iconst 0, 1) := by decide +kernel
theorem dL_holds_563 : decode cL_holds 563 = .ok (.ireturn, 1) := by decide +kernel
theorem dL_law_0 : decode cL_law 0 = .ok (.new 10, 3) := by decide +kernel
theorem dL_law_3 : decode cL_law 3 = .ok (.dup, 1) := by decide +kernel
theorem dL_law_4 : decode cL_law 4 = .ok (.invokespecial 37, 3) := by decide +kernel
theorem dL_law_7 : decode cL_law 7 = .ok (.astore_n 1, 1) := by decide +kernel
theorem dL_law_8 : decode cL_law 8 = .ok (.aload_n 1, 1) := by decide +kernel
theorem dL_law_9 : decode cL_law 9 = .ok (.invokestatic 38, 3) := by decide +kernel
theorem dL_law_12 : decode cL_law 12 = .ok (.ifCond .eq 32, 3) := by decide +kernel
theorem dL_law_15 : decode cL_law 15 = .ok (.aload_n 1, 1) := by decide +kernel
theorem dL_law_16 : decode cL_law 16 = .ok (.iconst 1, 1) := by decide +kernel
theorem dL_law_17 : decode cL_law 17 = .ok (.aload_n 0, 1) := by decide +kernel
theorem dL_law_18 : decode cL_law 18 = .ok (.iconst 0, 1) := by decide +kernel
theorem dL_law_19 : decode cL_law 19 = .ok (.invokestatic 42, 3) := by decide +kernel
theorem dL_law_22 : decode cL_law 22 = .ok (.iconst 4, 1) := by decide +kernel
theorem dL_law_23 : decode cL_law 23 = .ok (.irem, 1) := by decide +kernel
theorem dL_law_24 : decode cL_law 24 = .ok (.iadd, 1) := by decide +kernel
theorem dL_law_25 : decode cL_law 25 = .ok (.iconst 1, 1) := by decide +kernel
theorem dL_law_26 : decode cL_law 26 = .ok (.aload_n 0, 1) := by decide +kernel
theorem dL_law_27 : decode cL_law 27 = .ok (.iconst 1, 1) := by decide +kernel
theorem dL_law_28 : decode cL_law 28 = .ok (.invokestatic 42, 3) := by decide +kernel
theorem dL_law_31 : decode cL_law 31 = .ok (.iconst 4, 1) := by decide +kernel
theorem dL_law_32 : decode cL_law 32 = .ok (.irem, 1) := by decide +kernel
theorem dL_law_33 : decode cL_law 33 = .ok (.iadd, 1) := by decide +kernel
theorem dL_law_34 : decode cL_law 34 = .ok (.invokevirtual 46, 3) := by decide +kernel
theorem dL_law_37 : decode cL_law 37 = .ok (.ifCond .ne 7, 3) := by decide +kernel
theorem dL_law_40 : decode cL_law 40 = .ok (.iconst 1, 1) := by decide +kernel
theorem dL_law_41 : decode cL_law 41 = .ok (.goto 4, 3) := by decide +kernel
theorem dL_law_44 : decode cL_law 44 = .ok (.iconst 0, 1) := by decide +kernel
theorem dL_law_45 : decode cL_law 45 = .ok (.istore_n 2, 1) := by decide +kernel
theorem dL_law_46 : decode cL_law 46 = .ok (.aload_n 1, 1) := by decide +kernel
theorem dL_law_47 : decode cL_law 47 = .ok (.iconst 2, 1) := by decide +kernel
theorem dL_law_48 : decode cL_law 48 = .ok (.invokevirtual 25, 3) := by decide +kernel
theorem dL_law_51 : decode cL_law 51 = .ok (.aload_n 1, 1) := by decide +kernel
theorem dL_law_52 : decode cL_law 52 = .ok (.iconst 3, 1) := by decide +kernel
theorem dL_law_53 : decode cL_law 53 = .ok (.invokevirtual 25, 3) := by decide +kernel
theorem dL_law_56 : decode cL_law 56 = .ok (.imul, 1) := by decide +kernel
theorem dL_law_57 : decode cL_law 57 = .ok (.istore_n 3, 1) := by decide +kernel
theorem dL_law_58 : decode cL_law 58 = .ok (.iconst 0, 1) := by decide +kernel
theorem dL_law_59 : decode cL_law 59 = .ok (.istore 4, 2) := by decide +kernel
theorem dL_law_61 : decode cL_law 61 = .ok (.iload 4, 2) := by decide +kernel
theorem dL_law_63 : decode cL_law 63 = .ok (.bipush 8, 2) := by decide +kernel
theorem dL_law_65 : decode cL_law 65 = .ok (.if_icmp .ge 124, 3) := by decide +kernel
theorem dL_law_68 : decode cL_law 68 = .ok (.iload_n 2, 1) := by decide +kernel
theorem dL_law_69 : decode cL_law 69 = .ok (.ifCond .eq 120, 3) := by decide +kernel
theorem dL_law_72 : decode cL_law 72 = .ok (.aload_n 0, 1) := by decide +kernel
theorem dL_law_73 : decode cL_law 73 = .ok (.iconst 2, 1) := by decide +kernel
theorem dL_law_74 : decode cL_law 74 = .ok (.iload 4, 2) := by decide +kernel
theorem dL_law_76 : decode cL_law 76 = .ok (.iadd, 1) := by decide +kernel
theorem dL_law_77 : decode cL_law 77 = .ok (.invokestatic 42, 3) := by decide +kernel
theorem dL_law_80 : decode cL_law 80 = .ok (.istore 5, 2) := by decide +kernel
