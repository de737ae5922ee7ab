theorem dX3_state_9 : decode cX3_state 9 = .ok (.iload_n 1, 1) := by decide +kernel
theorem dX3_state_10 : decode cX3_state 10 = .ok (.ifCond .lt 25, 3) := by decide +kernel
theorem dX3_state_13 : decode cX3_state 13 = .ok (.iload_n 2, 1) := by decide +kernel
theorem dX3_state_14 : decode cX3_state 14 = .ok (.ifCond .lt 21, 3) := by decide +kernel
theorem dX3_state_17 : decode cX3_state 17 = .ok (.iload_n 2, 1) := by decide +kernel
theorem dX3_state_18 : decode cX3_state 18 = .ok (.aload_n 0, 1) := by decide +kernel
theorem dX3_state_19 : decode cX3_state 19 = .ok (.getfield 11, 3) := by decide +kernel
theorem dX3_state_22 : decode cX3_state 22 = .ok (.arraylength, 1) := by decide +kernel
theorem dX3_state_23 : decode cX3_state 23 = .ok (.if_icmp .ge 12, 3) := by decide +kernel
theorem dX3_state_26 : decode cX3_state 26 = .ok (.aload_n 0, 1) := by decide +kernel
theorem dX3_state_27 : decode cX3_state 27 = .ok (.getfield 11, 3) := by decide +kernel
theorem dX3_state_30 : decode cX3_state 30 = .ok (.iload_n 2, 1) := by decide +kernel
theorem dX3_state_31 : decode cX3_state 31 = .ok (.aaload, 1) := by decide +kernel
theorem dX3_state_32 : decode cX3_state 32 = .ok (.goto 4, 3) := by decide +kernel
theorem dX3_state_35 : decode cX3_state 35 = .ok (.aconst_null, 1) := by decide +kernel
theorem dX3_state_36 : decode cX3_state 36 = .ok (.areturn, 1) := by decide +kernel
theorem dX4_init_0 : decode cX4_init 0 = .ok (.aload_n 0, 1) := by decide +kernel
theorem dX4_init_1 : decode cX4_init 1 = .ok (.invokespecial 3, 3) := by decide +kernel
theorem dX4_init_4 : decode cX4_init 4 = .ok (.aload_n 0, 1) := by decide +kernel
theorem dX4_init_5 : decode cX4_init 5 = .ok (.new 9, 3) := by decide +kernel
theorem dX4_init_8 : decode cX4_init 8 = .ok (.dup, 1) := by decide +kernel
theorem dX4_init_9 : decode cX4_init 9 = .ok (.bipush 12, 2) := by decide +kernel
theorem dX4_init_11 : decode cX4_init 11 = .ok (.invokespecial 11, 3) := by decide +kernel
theorem dX4_init_14 : decode cX4_init 14 = .ok (.putfield 14, 3) := by decide +kernel
theorem dX4_init_17 : decode cX4_init 17 = .ok (.aload_n 0, 1) := by decide +kernel
theorem dX4_init_18 : decode cX4_init 18 = .ok (.new 9, 3) := by decide +kernel
theorem dX4_init_21 : decode cX4_init 21 = .ok (.dup, 1) := by decide +kernel
theorem dX4_init_22 : decode cX4_init 22 = .ok (.bipush 12, 2) := by decide +kernel
theorem dX4_init_24 : decode cX4_init 24 = .ok (.invokespecial 11, 3) := by decide +kernel
theorem dX4_init_27 : decode cX4_init 27 = .ok (.putfield 20, 3) := by decide +kernel
theorem dX4_init_30 : decode cX4_init 30 = .ok (.aload_n 0, 1) := by decide +kernel
theorem dX4_init_31 : decode cX4_init 31 = .ok (.new 9, 3) := by decide +kernel
theorem dX4_init_34 : decode cX4_init 34 = .ok (.dup, 1) := by decide +kernel
theorem dX4_init_35 : decode cX4_init 35 = .ok (.bipush 36, 2) := by decide +kernel
theorem dX4_init_37 : decode cX4_init 37 = .ok (.invokespecial 11, 3) := by decide +kernel
theorem dX4_init_40 : decode cX4_init 40 = .ok (.putfield 23, 3) := by decide +kernel
theorem dX4_init_43 : decode cX4_init 43 = .ok (.aload_n 0, 1) := by decide +kernel
theorem dX4_init_44 : decode cX4_init 44 = .ok (.iconst 4, 1) := by decide +kernel
theorem dX4_init_45 : decode cX4_init 45 = .ok (.iconst 4, 1) := by decide +kernel
theorem dX4_init_46 : decode cX4_init 46 = .ok (.invokevirtual 26, 3) := by decide +kernel
theorem dX4_init_49 : decode cX4_init 49 = .ok (.return_, 1) := by decide +kernel
theorem dX4_width_0 : decode cX4_width 0 = .ok (.aload_n 0, 1) := by decide +kernel
theorem dX4_width_1 : decode cX4_width 1 = .ok (.getfield 30, 3) := by decide +kernel
theorem dX4_width_4 : decode cX4_width 4 = .ok (.ireturn, 1) := by decide +kernel
theorem dX4_height_0 : decode cX4_height 0 = .ok (.aload_n 0, 1) := by decide +kernel
theorem dX4_height_1 : decode cX4_height 1 = .ok (.getfield 34, 3) := by decide +kernel
theorem dX4_height_4 : decode cX4_height 4 = .ok (.ireturn, 1) := by decide +kernel
theorem dX4_places_0 : decode cX4_places 0 = .ok (.aload_n 0, 1) := by decide +kernel
theorem dX4_places_1 : decode cX4_places 1 = .ok (.getfield 30, 3) := by decide +kernel
theorem dX4_places_4 : decode cX4_places 4 = .ok (.aload_n 0, 1) := by decide +kernel
theorem dX4_places_5 : decode cX4_places 5 = .ok (.getfield 34, 3) := by decide +kernel
theorem dX4_places_8 : decode cX4_places 8 = .ok (.imul, 1) := by decide +kernel
theorem dX4_places_9 : decode cX4_places 9 = .ok (.ireturn, 1) := by decide +kernel
theorem dX4_lies_0 : decode cX4_lies 0 = .ok (.aload_n 0, 1) := by decide +kernel
theorem dX4_lies_1 : decode cX4_lies 1 = .ok (.getfield 14, 3) := by decide +kernel
theorem dX4_lies_4 : decode cX4_lies 4 = .ok (.iload_n 1, 1) := by decide +kernel
theorem dX4_lies_5 : decode cX4_lies 5 = .ok (.invokevirtual 37, 3) := by decide +kernel
theorem dX4_lies_8 : decode cX4_lies 8 = .ok (.iconst (-1), 1) := by decide +kernel
theorem dX4_lies_9 : decode cX4_lies 9 = .ok (.if_icmp .eq 7, 3) := by decide +kernel
theorem dX4_lies_12 : decode cX4_lies 12 = .ok (.iconst 1, 1) := by decide +kernel
theorem dX4_lies_13 : decode cX4_lies 13 = .ok (.goto 4, 3) := by decide +kernel
theorem dX4_lies_16 : decode cX4_lies 16 = .ok (.iconst 0, 1) := by decide +kernel
theorem dX4_lies_17 : decode cX4_lies 17 = .ok (.ireturn, 1) := by decide +kernel
theorem dX4_placeOf_0 : decode cX4_placeOf 0 = .ok (.aload_n 0, 1) := by decide +kernel
theorem dX4_placeOf_1 : decode cX4_placeOf 1 = .ok (.getfield 14, 3) := by decide +kernel
theorem dX4_placeOf_4 : decode cX4_placeOf 4 = .ok (.iload_n 1, 1) := by decide +kernel
theorem dX4_placeOf_5 : decode cX4_placeOf 5 = .ok (.invokevirtual 37, 3) := by decide +kernel
theorem dX4_placeOf_8 : decode cX4_placeOf 8 = .ok (.ireturn, 1) := by decide +kernel
theorem dX4_orientationOf_0 : decode cX4_orientationOf 0 = .ok (.aload_n 0, 1) := by decide +kernel
theorem dX4_orientationOf_1 : decode cX4_orientationOf 1 = .ok (.getfield 20, 3) := by decide +kernel
theorem dX4_orientationOf_4 : decode cX4_orientationOf 4 = .ok (.iload_n 1, 1) := by decide +kernel
theorem dX4_orientationOf_5 : decode cX4_orientationOf 5 = .ok (.invokevirtual 37, 3) := by decide +kernel
theorem dX4_orientationOf_8 : decode cX4_orientationOf 8 = .ok (.ireturn, 1) := by decide +kernel
theorem dX4_scrapAt_0 : decode cX4_scrapAt 0 = .ok (.aload_n 0, 1) := by decide +kernel
theorem dX4_scrapAt_1 : decode cX4_scrapAt 1 = .ok (.getfield 23, 3) := by decide +kernel
theorem dX4_scrapAt_4 : decode cX4_scrapAt 4 = .ok (.iload_n 1, 1) := by decide +kernel
theorem dX4_scrapAt_5 : decode cX4_scrapAt 5 = .ok (.invokevirtual 37, 3) := by decide +kernel
theorem dX4_scrapAt_8 : decode cX4_scrapAt 8 = .ok (.ireturn, 1) := by decide +kernel
theorem dX4_clear_0 : decode cX4_clear 0 = .ok (.aload_n 0, 1) := by decide +kernel
theorem dX4_clear_1 : decode cX4_clear 1 = .ok (.iload_n 1, 1) := by decide +kernel
theorem dX4_clear_2 : decode cX4_clear 2 = .ok (.putfield 30, 3) := by decide +kernel
theorem dX4_clear_5 : decode cX4_clear 5 = .ok (.aload_n 0, 1) := by decide +kernel
theorem dX4_clear_6 : decode cX4_clear 6 = .ok (.iload_n 2, 1) := by decide +kernel
theorem dX4_clear_7 : decode cX4_clear 7 = .ok (.putfield 34, 3) := by decide +kernel
theorem dX4_clear_10 : decode cX4_clear 10 = .ok (.aload_n 0, 1) := by decide +kernel
theorem dX4_clear_11 : decode cX4_clear 11 = .ok (.getfield 14, 3) := by decide +kernel
theorem dX4_clear_14 : decode cX4_clear 14 = .ok (.iconst (-1), 1) := by decide +kernel
theorem dX4_clear_15 : decode cX4_clear 15 = .ok (.invokevirtual 41, 3) := by decide +kernel
theorem dX4_clear_18 : decode cX4_clear 18 = .ok (.aload_n 0, 1) := by decide +kernel
theorem dX4_clear_19 : decode cX4_clear 19 = .ok (.getfield 20, 3) := by decide +kernel
theorem dX4_clear_22 : decode cX4_clear 22 = .ok (.iconst 0, 1) := by decide +kernel
theorem dX4_clear_23 : decode cX4_clear 23 = .ok (.invokevirtual 41, 3) := by decide +kernel
theorem dX4_clear_26 : decode cX4_clear 26 = .ok (.aload_n 0, 1) := by decide +kernel
theorem dX4_clear_27 : decode cX4_clear 27 = .ok (.getfield 23, 3) := by decide +kernel
theorem dX4_clear_30 : decode cX4_clear 30 = .ok (.iconst (-1), 1) := by decide +kernel
theorem dX4_clear_31 : decode cX4_clear 31 = .ok (.invokevirtual 41, 3) := by decide +kernel
theorem dX4_clear_34 : decode cX4_clear 34 = .ok (.return_, 1) := by decide +kernel
theorem dX4_put_0 : decode cX4_put 0 = .ok (.aload_n 0, 1) := by decide +kernel
theorem dX4_put_1 : decode cX4_put 1 = .ok (.getfield 14, 3) := by decide +kernel
theorem dX4_put_4 : decode cX4_put 4 = .ok (.iload_n 1, 1) := by decide +kernel
theorem dX4_put_5 : decode cX4_put 5 = .ok (.iload_n 2, 1) := by decide +kernel
theorem dX4_put_6 : decode cX4_put 6 = .ok (.invokevirtual 44, 3) := by decide +kernel
theorem dX4_put_9 : decode cX4_put 9 = .ok (.aload_n 0, 1) := by decide +kernel
theorem dX4_put_10 : decode cX4_put 10 = .ok (.getfield 20, 3) := by decide +kernel
theorem dX4_put_13 : decode cX4_put 13 = .ok (.iload_n 1, 1) := by decide +kernel
theorem dX4_put_14 : decode cX4_put 14 = .ok (.iload_n 3, 1) := by decide +kernel
theorem dX4_put_15 : decode cX4_put 15 = .ok (.invokevirtual 44, 3) := by decide +kernel
theorem dX4_put_18 : decode cX4_put 18 = .ok (.aload_n 0, 1) := by decide +kernel
theorem dX4_put_19 : decode cX4_put 19 = .ok (.getfield 23, 3) := by decide +kernel
theorem dX4_put_22 : decode cX4_put 22 = .ok (.iload_n 2, 1) := by decide +kernel
theorem dX4_put_23 : decode cX4_put 23 = .ok (.iload_n 1, 1) := by decide +kernel
theorem dX4_put_24 : decode cX4_put 24 = .ok (.invokevirtual 44, 3) := by decide +kernel
theorem dX4_put_27 : decode cX4_put 27 = .ok (.return_, 1) := by decide +kernel
theorem dX4_take_0 : decode cX4_take 0 = .ok (.aload_n 0, 1) := by decide +kernel
theorem dX4_take_1 : decode cX4_take 1 = .ok (.getfield 23, 3) := by decide +kernel
theorem dX4_take_4 : decode cX4_take 4 = .ok (.aload_n 0, 1) := by decide +kernel
theorem dX4_take_5 : decode cX4_take 5 = .ok (.getfield 14, 3) := by decide +kernel
theorem dX4_take_8 : decode cX4_take 8 = .ok (.iload_n 1, 1) := by decide +kernel
theorem dX4_take_9 : decode cX4_take 9 = .ok (.invokevirtual 37, 3) := by decide +kernel
theorem dX4_take_12 : decode cX4_take 12 = .ok (.iconst (-1), 1) := by decide +kernel
theorem dX4_take_13 : decode cX4_take 13 = .ok (.invokevirtual 44, 3) := by decide +kernel
theorem dX4_take_16 : decode cX4_take 16 = .ok (.aload_n 0, 1) := by decide +kernel
theorem dX4_take_17 : decode cX4_take 17 = .ok (.getfield 14, 3) := by decide +kernel
theorem dX4_take_20 : decode cX4_take 20 = .ok (.iload_n 1, 1) := by decide +kernel
theorem dX4_take_21 : decode cX4_take 21 = .ok (.iconst (-1), 1) := by decide +kernel
theorem dX4_take_22 : decode cX4_take 22 = .ok (.invokevirtual 44, 3) := by decide +kernel
theorem dX4_take_25 : decode cX4_take 25 = .ok (.aload_n 0, 1) := by decide +kernel
theorem dX4_take_26 : decode cX4_take 26 = .ok (.getfield 20, 3) := by decide +kernel
theorem dX4_take_29 : decode cX4_take 29 = .ok (.iload_n 1, 1) := by decide +kernel
theorem dX4_take_30 : decode cX4_take 30 = .ok (.iconst 0, 1) := by decide +kernel
theorem dX4_take_31 : decode cX4_take 31 = .ok (.invokevirtual 44, 3) := by decide +kernel
theorem dX4_take_34 : decode cX4_take 34 = .ok (.return_, 1) := by decide +kernel
theorem dX4_remove_0 : decode cX4_remove 0 = .ok (.aload_n 0, 1) := by decide +kernel
theorem dX4_remove_1 : decode cX4_remove 1 = .ok (.getfield 14, 3) := by decide +kernel
theorem dX4_remove_4 : decode cX4_remove 4 = .ok (.iload_n 1, 1) := by decide +kernel
theorem dX4_remove_5 : decode cX4_remove 5 = .ok (.iconst 1, 1) := by decide +kernel
theorem dX4_remove_6 : decode cX4_remove 6 = .ok (.invokevirtual 47, 3) := by decide +kernel
theorem dX4_remove_9 : decode cX4_remove 9 = .ok (.aload_n 0, 1) := by decide +kernel
theorem dX4_remove_10 : decode cX4_remove 10 = .ok (.getfield 14, 3) := by decide +kernel
theorem dX4_remove_13 : decode cX4_remove 13 = .ok (.bipush 11, 2) := by decide +kernel
theorem dX4_remove_15 : decode cX4_remove 15 = .ok (.iconst (-1), 1) := by decide +kernel
theorem dX4_remove_16 : decode cX4_remove 16 = .ok (.invokevirtual 44, 3) := by decide +kernel
theorem dX4_remove_19 : decode cX4_remove 19 = .ok (.aload_n 0, 1) := by decide +kernel
theorem dX4_remove_20 : decode cX4_remove 20 = .ok (.getfield 20, 3) := by decide +kernel
theorem dX4_remove_23 : decode cX4_remove 23 = .ok (.iload_n 1, 1) := by decide +kernel
theorem dX4_remove_24 : decode cX4_remove 24 = .ok (.iconst 1, 1) := by decide +kernel
theorem dX4_remove_25 : decode cX4_remove 25 = .ok (.invokevirtual 47, 3) := by decide +kernel
theorem dX4_remove_28 : decode cX4_remove 28 = .ok (.aload_n 0, 1) := by decide +kernel
theorem dX4_remove_29 : decode cX4_remove 29 = .ok (.getfield 20, 3) := by decide +kernel
theorem dX4_remove_32 : decode cX4_remove 32 = .ok (.bipush 11, 2) := by decide +kernel
theorem dX4_remove_34 : decode cX4_remove 34 = .ok (.iconst 0, 1) := by decide +kernel
theorem dX4_remove_35 : decode cX4_remove 35 = .ok (.invokevirtual 44, 3) := by decide +kernel
theorem dX4_remove_38 : decode cX4_remove 38 = .ok (.aload_n 0, 1) := by decide +kernel
theorem dX4_remove_39 : decode cX4_remove 39 = .ok (.getfield 23, 3) := by decide +kernel
theorem dX4_remove_42 : decode cX4_remove 42 = .ok (.iconst (-1), 1) := by decide +kernel
theorem dX4_remove_43 : decode cX4_remove 43 = .ok (.invokevirtual 41, 3) := by decide +kernel
theorem dX4_remove_46 : decode cX4_remove 46 = .ok (.iconst 0, 1) := by decide +kernel
theorem dX4_remove_47 : decode cX4_remove 47 = .ok (.istore_n 2, 1) := by decide +kernel
theorem dX4_remove_48 : decode cX4_remove 48 = .ok (.iload_n 2, 1) := by decide +kernel
theorem dX4_remove_49 : decode cX4_remove 49 = .ok (.bipush 12, 2) := by decide +kernel
theorem dX4_remove_51 : decode cX4_remove 51 = .ok (.if_icmp .ge 25, 3) := by decide +kernel
theorem dX4_remove_54 : decode cX4_remove 54 = .ok (.aload_n 0, 1) := by decide +kernel
theorem dX4_remove_55 : decode cX4_remove 55 = .ok (.getfield 23, 3) := by decide +kernel
theorem dX4_remove_58 : decode cX4_remove 58 = .ok (.aload_n 0, 1) := by decide +kernel
theorem dX4_remove_59 : decode cX4_remove 59 = .ok (.getfield 14, 3) := by decide +kernel
theorem dX4_remove_62 : decode cX4_remove 62 = .ok (.iload_n 2, 1) := by decide +kernel
theorem dX4_remove_63 : decode cX4_remove 63 = .ok (.invokevirtual 37, 3) := by decide +kernel
theorem dX4_remove_66 : decode cX4_remove 66 = .ok (.iload_n 2, 1) := by decide +kernel
theorem dX4_remove_67 : decode cX4_remove 67 = .ok (.invokevirtual 44, 3) := by decide +kernel
theorem dX4_remove_70 : decode cX4_remove 70 = .ok (.iinc 2 1, 3) := by decide +kernel
theorem dX4_remove_73 : decode cX4_remove 73 = .ok (.goto (-25), 3) := by decide +kernel
theorem dX4_remove_76 : decode cX4_remove 76 = .ok (.return_, 1) := by decide +kernel
theorem dX4_copy_0 : decode cX4_copy 0 = .ok (.aload_n 0, 1) := by decide +kernel
theorem dX4_copy_1 : decode cX4_copy 1 = .ok (.aload_n 1, 1) := by decide +kernel
theorem dX4_copy_2 : decode cX4_copy 2 = .ok (.getfield 30, 3) := by decide +kernel
theorem dX4_copy_5 : decode cX4_copy 5 = .ok (.putfield 30, 3) := by decide +kernel
theorem dX4_copy_8 : decode cX4_copy 8 = .ok (.aload_n 0, 1) := by decide +kernel
theorem dX4_copy_9 : decode cX4_copy 9 = .ok (.aload_n 1, 1) := by decide +kernel
theorem dX4_copy_10 : decode cX4_copy 10 = .ok (.getfield 34, 3) := by decide +kernel
theorem dX4_copy_13 : decode cX4_copy 13 = .ok (.putfield 34, 3) := by decide +kernel
theorem dX4_copy_16 : decode cX4_copy 16 = .ok (.aload_n 0, 1) := by decide +kernel
theorem dX4_copy_17 : decode cX4_copy 17 = .ok (.getfield 14, 3) := by decide +kernel
theorem dX4_copy_20 : decode cX4_copy 20 = .ok (.aload_n 1, 1) := by decide +kernel
theorem dX4_copy_21 : decode cX4_copy 21 = .ok (.getfield 14, 3) := by decide +kernel
theorem dX4_copy_24 : decode cX4_copy 24 = .ok (.invokevirtual 50, 3) := by decide +kernel
theorem dX4_copy_27 : decode cX4_copy 27 = .ok (.aload_n 0, 1) := by decide +kernel
theorem dX4_copy_28 : decode cX4_copy 28 = .ok (.getfield 20, 3) := by decide +kernel
theorem dX4_copy_31 : decode cX4_copy 31 = .ok (.aload_n 1, 1) := by decide +kernel
theorem dX4_copy_32 : decode cX4_copy 32 = .ok (.getfield 20, 3) := by decide +kernel
theorem dX4_copy_35 : decode cX4_copy 35 = .ok (.invokevirtual 50, 3) := by decide +kernel
theorem dX4_copy_38 : decode cX4_copy 38 = .ok (.aload_n 0, 1) := by decide +kernel
theorem dX4_copy_39 : decode cX4_copy 39 = .ok (.getfield 23, 3) := by decide +kernel
theorem dX4_copy_42 : decode cX4_copy 42 = .ok (.aload_n 1, 1) := by decide +kernel
theorem dX4_copy_43 : decode cX4_copy 43 = .ok (.getfield 23, 3) := by decide +kernel
theorem dX4_copy_46 : decode cX4_copy 46 = .ok (.invokevirtual 50, 3) := by decide +kernel
theorem dX4_copy_49 : decode cX4_copy 49 = .ok (.return_, 1) := by decide +kernel
theorem dX4_behind_0 : decode cX4_behind 0 = .ok (.aload_n 0, 1) := by decide +kernel
theorem dX4_behind_1 : decode cX4_behind 1 = .ok (.getfield 30, 3) := by decide +kernel
theorem dX4_behind_4 : decode cX4_behind 4 = .ok (.ifCond .le 12, 3) := by decide +kernel
theorem dX4_behind_7 : decode cX4_behind 7 = .ok (.iload_n 1, 1) := by decide +kernel
theorem dX4_behind_8 : decode cX4_behind 8 = .ok (.aload_n 0, 1) := by decide +kernel
theorem dX4_behind_9 : decode cX4_behind 9 = .ok (.getfield 30, 3) := by decide +kernel
theorem dX4_behind_12 : decode cX4_behind 12 = .ok (.irem, 1) := by decide +kernel
theorem dX4_behind_13 : decode cX4_behind 13 = .ok (.goto 4, 3) := by decide +kernel
theorem dX4_behind_16 : decode cX4_behind 16 = .ok (.iconst 0, 1) := by decide +kernel
theorem dX4_behind_17 : decode cX4_behind 17 = .ok (.istore_n 3, 1) := by decide +kernel
theorem dX4_behind_18 : decode cX4_behind 18 = .ok (.iload_n 2, 1) := by decide +kernel
theorem dX4_behind_19 : decode cX4_behind 19 = .ok (.tableswitch 86 0 2 #[25, 44, 62], 25) := by decide +kernel
theorem dX4_behind_44 : decode cX4_behind 44 = .ok (.iload_n 1, 1) := by decide +kernel
theorem dX4_behind_45 : decode cX4_behind 45 = .ok (.aload_n 0, 1) := by decide +kernel
theorem dX4_behind_46 : decode cX4_behind 46 = .ok (.getfield 30, 3) := by decide +kernel
theorem dX4_behind_49 : decode cX4_behind 49 = .ok (.if_icmp .lt 12, 3) := by decide +kernel
theorem dX4_behind_52 : decode cX4_behind 52 = .ok (.iload_n 1, 1) := by decide +kernel
theorem dX4_behind_53 : decode cX4_behind 53 = .ok (.aload_n 0, 1) := by decide +kernel
theorem dX4_behind_54 : decode cX4_behind 54 = .ok (.getfield 30, 3) := by decide +kernel
theorem dX4_behind_57 : decode cX4_behind 57 = .ok (.isub, 1) := by decide +kernel
theorem dX4_behind_58 : decode cX4_behind 58 = .ok (.goto 4, 3) := by decide +kernel
theorem dX4_behind_61 : decode cX4_behind 61 = .ok (.iconst (-1), 1) := by decide +kernel
theorem dX4_behind_62 : decode cX4_behind 62 = .ok (.ireturn, 1) := by decide +kernel
theorem dX4_behind_63 : decode cX4_behind 63 = .ok (.iload_n 3, 1) := by decide +kernel
theorem dX4_behind_64 : decode cX4_behind 64 = .ok (.iconst 1, 1) := by decide +kernel
theorem dX4_behind_65 : decode cX4_behind 65 = .ok (.iadd, 1) := by decide +kernel
theorem dX4_behind_66 : decode cX4_behind 66 = .ok (.aload_n 0, 1) := by decide +kernel
theorem dX4_behind_67 : decode cX4_behind 67 = .ok (.getfield 30, 3) := by decide +kernel
theorem dX4_behind_70 : decode cX4_behind 70 = .ok (.if_icmp .ge 9, 3) := by decide +kernel
theorem dX4_behind_73 : decode cX4_behind 73 = .ok (.iload_n 1, 1) := by decide +kernel
theorem dX4_behind_74 : decode cX4_behind 74 = .ok (.iconst 1, 1) := by decide +kernel
theorem dX4_behind_75 : decode cX4_behind 75 = .ok (.iadd, 1) := by decide +kernel
theorem dX4_behind_76 : decode cX4_behind 76 = .ok (.goto 4, 3) := by decide +kernel
theorem dX4_behind_79 : decode cX4_behind 79 = .ok (.iconst (-1), 1) := by decide +kernel
theorem dX4_behind_80 : decode cX4_behind 80 = .ok (.ireturn, 1) := by decide +kernel
theorem dX4_behind_81 : decode cX4_behind 81 = .ok (.iload_n 1, 1) := by decide +kernel
theorem dX4_behind_82 : decode cX4_behind 82 = .ok (.aload_n 0, 1) := by decide +kernel
theorem dX4_behind_83 : decode cX4_behind 83 = .ok (.getfield 30, 3) := by decide +kernel
theorem dX4_behind_86 : decode cX4_behind 86 = .ok (.iadd, 1) := by decide +kernel
theorem dX4_behind_87 : decode cX4_behind 87 = .ok (.aload_n 0, 1) := by decide +kernel
theorem dX4_behind_88 : decode cX4_behind 88 = .ok (.invokevirtual 54, 3) := by decide +kernel
theorem dX4_behind_91 : decode cX4_behind 91 = .ok (.if_icmp .ge 12, 3) := by decide +kernel
theorem dX4_behind_94 : decode cX4_behind 94 = .ok (.iload_n 1, 1) := by decide +kernel
theorem dX4_behind_95 : decode cX4_behind 95 = .ok (.aload_n 0, 1) := by decide +kernel
theorem dX4_behind_96 : decode cX4_behind 96 = .ok (.getfield 30, 3) := by decide +kernel
theorem dX4_behind_99 : decode cX4_behind 99 = .ok (.iadd, 1) := by decide +kernel
theorem dX4_behind_100 : decode cX4_behind 100 = .ok (.goto 4, 3) := by decide +kernel
theorem dX4_behind_103 : decode cX4_behind 103 = .ok (.iconst (-1), 1) := by decide +kernel
theorem dX4_behind_104 : decode cX4_behind 104 = .ok (.ireturn, 1) := by decide +kernel
theorem dX4_behind_105 : decode cX4_behind 105 = .ok (.iload_n 3, 1) := by decide +kernel
theorem dX4_behind_106 : decode cX4_behind 106 = .ok (.ifCond .le 9, 3) := by decide +kernel
theorem dX4_behind_109 : decode cX4_behind 109 = .ok (.iload_n 1, 1) := by decide +kernel
theorem dX4_behind_110 : decode cX4_behind 110 = .ok (.iconst 1, 1) := by decide +kernel
theorem dX4_behind_111 : decode cX4_behind 111 = .ok (.isub, 1) := by decide +kernel
theorem dX4_behind_112 : decode cX4_behind 112 = .ok (.goto 4, 3) := by decide +kernel
theorem dX4_behind_115 : decode cX4_behind 115 = .ok (.iconst (-1), 1) := by decide +kernel
theorem dX4_behind_116 : decode cX4_behind 116 = .ok (.ireturn, 1) := by decide +kernel
theorem dX5_init_0 : decode cX5_init 0 = .ok (.aload_n 0, 1) := by decide +kernel
theorem dX5_init_1 : decode cX5_init 1 = .ok (.invokespecial 3, 3) := by decide +kernel
theorem dX5_init_4 : decode cX5_init 4 = .ok (.aload_n 0, 1) := by decide +kernel
theorem dX5_init_5 : decode cX5_init 5 = .ok (.iload_n 1, 1) := by decide +kernel
theorem dX5_init_6 : decode cX5_init 6 = .ok (.iconst 0, 1) := by decide +kernel
theorem dX5_init_7 : decode cX5_init 7 = .ok (.invokestatic 9, 3) := by decide +kernel
theorem dX5_init_10 : decode cX5_init 10 = .ok (.newarray .int, 2) := by decide +kernel
theorem dX5_init_12 : decode cX5_init 12 = .ok (.putfield 15, 3) := by decide +kernel
theorem dX5_init_15 : decode cX5_init 15 = .ok (.return_, 1) := by decide +kernel
theorem dX5_get_0 : decode cX5_get 0 = .ok (.iload_n 1, 1) := by decide +kernel
theorem dX5_get_1 : decode cX5_get 1 = .ok (.ifCond .lt 21, 3) := by decide +kernel
theorem dX5_get_4 : decode cX5_get 4 = .ok (.iload_n 1, 1) := by decide +kernel
theorem dX5_get_5 : decode cX5_get 5 = .ok (.aload_n 0, 1) := by decide +kernel
theorem dX5_get_6 : decode cX5_get 6 = .ok (.getfield 15, 3) := by decide +kernel
theorem dX5_get_9 : decode cX5_get 9 = .ok (.arraylength, 1) := by decide +kernel
theorem dX5_get_10 : decode cX5_get 10 = .ok (.if_icmp .ge 12, 3) := by decide +kernel
theorem dX5_get_13 : decode cX5_get 13 = .ok (.aload_n 0, 1) := by decide +kernel
theorem dX5_get_14 : decode cX5_get 14 = .ok (.getfield 15, 3) := by decide +kernel
theorem dX5_get_17 : decode cX5_get 17 = .ok (.iload_n 1, 1) := by decide +kernel
theorem dX5_get_18 : decode cX5_get 18 = .ok (.iaload, 1) := by decide +kernel
theorem dX5_get_19 : decode cX5_get 19 = .ok (.goto 4, 3) := by decide +kernel
theorem dX5_get_22 : decode cX5_get 22 = .ok (.iconst (-1), 1) := by decide +kernel
theorem dX5_get_23 : decode cX5_get 23 = .ok (.ireturn, 1) := by decide +kernel
theorem dX5_set_0 : decode cX5_set 0 = .ok (.iload_n 1, 1) := by decide +kernel
theorem dX5_set_1 : decode cX5_set 1 = .ok (.ifCond .lt 19, 3) := by decide +kernel
theorem dX5_set_4 : decode cX5_set 4 = .ok (.iload_n 1, 1) := by decide +kernel
theorem dX5_set_5 : decode cX5_set 5 = .ok (.aload_n 0, 1) := by decide +kernel
theorem dX5_set_6 : decode cX5_set 6 = .ok (.getfield 15, 3) := by decide +kernel
theorem dX5_set_9 : decode cX5_set 9 = .ok (.arraylength, 1) := by decide +kernel
theorem dX5_set_10 : decode cX5_set 10 = .ok (.if_icmp .ge 10, 3) := by decide +kernel
theorem dX5_set_13 : decode cX5_set 13 = .ok (.aload_n 0, 1) := by decide +kernel
theorem dX5_set_14 : decode cX5_set 14 = .ok (.getfield 15, 3) := by decide +kernel
theorem dX5_set_17 : decode cX5_set 17 = .ok (.iload_n 1, 1) := by decide +kernel
theorem dX5_set_18 : decode cX5_set 18 = .ok (.iload_n 2, 1) := by decide +kernel
theorem dX5_set_19 : decode cX5_set 19 = .ok (.iastore, 1) := by decide +kernel
theorem dX5_set_20 : decode cX5_set 20 = .ok (.return_, 1) := by decide +kernel
theorem dX5_setAll_0 : decode cX5_setAll 0 = .ok (.aload_n 0, 1) := by decide +kernel
theorem dX5_setAll_1 : decode cX5_setAll 1 = .ok (.getfield 15, 3) := by decide +kernel
theorem dX5_setAll_4 : decode cX5_setAll 4 = .ok (.iload_n 1, 1) := by decide +kernel
theorem dX5_setAll_5 : decode cX5_setAll 5 = .ok (.invokestatic 21, 3) := by decide +kernel
theorem dX5_setAll_8 : decode cX5_setAll 8 = .ok (.return_, 1) := by decide +kernel
theorem dX5_copy_0 : decode cX5_copy 0 = .ok (.aload_n 0, 1) := by decide +kernel
theorem dX5_copy_1 : decode cX5_copy 1 = .ok (.getfield 15, 3) := by decide +kernel
theorem dX5_copy_4 : decode cX5_copy 4 = .ok (.arraylength, 1) := by decide +kernel
theorem dX5_copy_5 : decode cX5_copy 5 = .ok (.aload_n 1, 1) := by decide +kernel
theorem dX5_copy_6 : decode cX5_copy 6 = .ok (.getfield 15, 3) := by decide +kernel
theorem dX5_copy_9 : decode cX5_copy 9 = .ok (.arraylength, 1) := by decide +kernel
theorem dX5_copy_10 : decode cX5_copy 10 = .ok (.invokestatic 27, 3) := by decide +kernel
theorem dX5_copy_13 : decode cX5_copy 13 = .ok (.istore_n 2, 1) := by decide +kernel
theorem dX5_copy_14 : decode cX5_copy 14 = .ok (.aload_n 1, 1) := by decide +kernel
theorem dX5_copy_15 : decode cX5_copy 15 = .ok (.getfield 15, 3) := by decide +kernel
theorem dX5_copy_18 : decode cX5_copy 18 = .ok (.iconst 0, 1) := by decide +kernel
theorem dX5_copy_19 : decode cX5_copy 19 = .ok (.aload_n 0, 1) := by decide +kernel
theorem dX5_copy_20 : decode cX5_copy 20 = .ok (.getfield 15, 3) := by decide +kernel
theorem dX5_copy_23 : decode cX5_copy 23 = .ok (.iconst 0, 1) := by decide +kernel
theorem dX5_copy_24 : decode cX5_copy 24 = .ok (.iload_n 2, 1) := by decide +kernel
theorem dX5_copy_25 : decode cX5_copy 25 = .ok (.invokestatic 30, 3) := by decide +kernel
theorem dX5_copy_28 : decode cX5_copy 28 = .ok (.return_, 1) := by decide +kernel
theorem dX5_cut_0 : decode cX5_cut 0 = .ok (.aload_n 0, 1) := by decide +kernel
theorem dX5_cut_1 : decode cX5_cut 1 = .ok (.getfield 15, 3) := by decide +kernel
theorem dX5_cut_4 : decode cX5_cut 4 = .ok (.arraylength, 1) := by decide +kernel
theorem dX5_cut_5 : decode cX5_cut 5 = .ok (.iload_n 2, 1) := by decide +kernel
theorem dX5_cut_6 : decode cX5_cut 6 = .ok (.isub, 1) := by decide +kernel
theorem dX5_cut_7 : decode cX5_cut 7 = .ok (.iload_n 1, 1) := by decide +kernel
theorem dX5_cut_8 : decode cX5_cut 8 = .ok (.isub, 1) := by decide +kernel
theorem dX5_cut_9 : decode cX5_cut 9 = .ok (.istore_n 3, 1) := by decide +kernel
theorem dX5_cut_10 : decode cX5_cut 10 = .ok (.iload_n 1, 1) := by decide +kernel
theorem dX5_cut_11 : decode cX5_cut 11 = .ok (.ifCond .lt 27, 3) := by decide +kernel
theorem dX5_cut_14 : decode cX5_cut 14 = .ok (.iload_n 2, 1) := by decide +kernel
theorem dX5_cut_15 : decode cX5_cut 15 = .ok (.ifCond .lt 23, 3) := by decide +kernel
theorem dX5_cut_18 : decode cX5_cut 18 = .ok (.iload_n 3, 1) := by decide +kernel
theorem dX5_cut_19 : decode cX5_cut 19 = .ok (.ifCond .lt 19, 3) := by decide +kernel
theorem dX5_cut_22 : decode cX5_cut 22 = .ok (.aload_n 0, 1) := by decide +kernel
theorem dX5_cut_23 : decode cX5_cut 23 = .ok (.getfield 15, 3) := by decide +kernel
theorem dX5_cut_26 : decode cX5_cut 26 = .ok (.iload_n 1, 1) := by decide +kernel
theorem dX5_cut_27 : decode cX5_cut 27 = .ok (.iload_n 2, 1) := by decide +kernel
theorem dX5_cut_28 : decode cX5_cut 28 = .ok (.iadd, 1) := by decide +kernel
theorem dX5_cut_29 : decode cX5_cut 29 = .ok (.aload_n 0, 1) := by decide +kernel
theorem dX5_cut_30 : decode cX5_cut 30 = .ok (.getfield 15, 3) := by decide +kernel
theorem dX5_cut_33 : decode cX5_cut 33 = .ok (.iload_n 1, 1) := by decide +kernel
theorem dX5_cut_34 : decode cX5_cut 34 = .ok (.iload_n 3, 1) := by decide +kernel
theorem dX5_cut_35 : decode cX5_cut 35 = .ok (.invokestatic 30, 3) := by decide +kernel
theorem dX5_cut_38 : decode cX5_cut 38 = .ok (.return_, 1) := by decide +kernel
theorem dX6_init_0 : decode cX6_init 0 = .ok (.aload_n 0, 1) := by decide +kernel
theorem dX6_init_1 : decode cX6_init 1 = .ok (.invokespecial 3, 3) := by decide +kernel
theorem dX6_init_4 : decode cX6_init 4 = .ok (.aload_n 0, 1) := by decide +kernel
theorem dX6_init_5 : decode cX6_init 5 = .ok (.new 9, 3) := by decide +kernel
theorem dX6_init_8 : decode cX6_init 8 = .ok (.dup, 1) := by decide +kernel
theorem dX6_init_9 : decode cX6_init 9 = .ok (.bipush 12, 2) := by decide +kernel
theorem dX6_init_11 : decode cX6_init 11 = .ok (.invokespecial 11, 3) := by decide +kernel
theorem dX6_init_14 : decode cX6_init 14 = .ok (.putfield 14, 3) := by decide +kernel
theorem dX6_init_17 : decode cX6_init 17 = .ok (.aload_n 0, 1) := by decide +kernel
theorem dX6_init_18 : decode cX6_init 18 = .ok (.new 9, 3) := by decide +kernel
theorem dX6_init_21 : decode cX6_init 21 = .ok (.dup, 1) := by decide +kernel
theorem dX6_init_22 : decode cX6_init 22 = .ok (.sipush 384, 3) := by decide +kernel
theorem dX6_init_25 : decode cX6_init 25 = .ok (.invokespecial 11, 3) := by decide +kernel
theorem dX6_init_28 : decode cX6_init 28 = .ok (.putfield 20, 3) := by decide +kernel
theorem dX6_init_31 : decode cX6_init 31 = .ok (.aload_n 0, 1) := by decide +kernel
theorem dX6_init_32 : decode cX6_init 32 = .ok (.new 9, 3) := by decide +kernel
theorem dX6_init_35 : decode cX6_init 35 = .ok (.dup, 1) := by decide +kernel
theorem dX6_init_36 : decode cX6_init 36 = .ok (.sipush 384, 3) := by decide +kernel
theorem dX6_init_39 : decode cX6_init 39 = .ok (.invokespecial 11, 3) := by decide +kernel
theorem dX6_init_42 : decode cX6_init 42 = .ok (.putfield 23, 3) := by decide +kernel
theorem dX6_init_45 : decode cX6_init 45 = .ok (.return_, 1) := by decide +kernel
theorem dX6_size_0 : decode cX6_size 0 = .ok (.aload_n 0, 1) := by decide +kernel
theorem dX6_size_1 : decode cX6_size 1 = .ok (.getfield 26, 3) := by decide +kernel
theorem dX6_size_4 : decode cX6_size 4 = .ok (.ireturn, 1) := by decide +kernel
theorem dX6_kind_0 : decode cX6_kind 0 = .ok (.aload_n 0, 1) := by decide +kernel
theorem dX6_kind_1 : decode cX6_kind 1 = .ok (.getfield 14, 3) := by decide +kernel
theorem dX6_kind_4 : decode cX6_kind 4 = .ok (.iload_n 1, 1) := by decide +kernel
theorem dX6_kind_5 : decode cX6_kind 5 = .ok (.invokevirtual 30, 3) := by decide +kernel
theorem dX6_kind_8 : decode cX6_kind 8 = .ok (.ireturn, 1) := by decide +kernel
theorem dX6_profile_0 : decode cX6_profile 0 = .ok (.aload_n 0, 1) := by decide +kernel
theorem dX6_profile_1 : decode cX6_profile 1 = .ok (.getfield 20, 3) := by decide +kernel
theorem dX6_profile_4 : decode cX6_profile 4 = .ok (.iload_n 1, 1) := by decide +kernel
theorem dX6_profile_5 : decode cX6_profile 5 = .ok (.bipush 32, 2) := by decide +kernel
theorem dX6_profile_7 : decode cX6_profile 7 = .ok (.imul, 1) := by decide +kernel
theorem dX6_profile_8 : decode cX6_profile 8 = .ok (.iload_n 2, 1) := by decide +kernel
theorem dX6_profile_9 : decode cX6_profile 9 = .ok (.iconst 4, 1) := by decide +kernel
theorem dX6_profile_10 : decode cX6_profile 10 = .ok (.imul, 1) := by decide +kernel
theorem dX6_profile_11 : decode cX6_profile 11 = .ok (.iadd, 1) := by decide +kernel
theorem dX6_profile_12 : decode cX6_profile 12 = .ok (.iload_n 3, 1) := by decide +kernel
theorem dX6_profile_13 : decode cX6_profile 13 = .ok (.iadd, 1) := by decide +kernel
theorem dX6_profile_14 : decode cX6_profile 14 = .ok (.invokevirtual 30, 3) := by decide +kernel
theorem dX6_profile_17 : decode cX6_profile 17 = .ok (.ireturn, 1) := by decide +kernel
theorem dX6_line_0 : decode cX6_line 0 = .ok (.aload_n 0, 1) := by decide +kernel
theorem dX6_line_1 : decode cX6_line 1 = .ok (.getfield 23, 3) := by decide +kernel
theorem dX6_line_4 : decode cX6_line 4 = .ok (.iload_n 1, 1) := by decide +kernel
theorem dX6_line_5 : decode cX6_line 5 = .ok (.bipush 32, 2) := by decide +kernel
theorem dX6_line_7 : decode cX6_line 7 = .ok (.imul, 1) := by decide +kernel
theorem dX6_line_8 : decode cX6_line 8 = .ok (.iload_n 2, 1) := by decide +kernel
theorem dX6_line_9 : decode cX6_line 9 = .ok (.iconst 4, 1) := by decide +kernel
theorem dX6_line_10 : decode cX6_line 10 = .ok (.imul, 1) := by decide +kernel
theorem dX6_line_11 : decode cX6_line 11 = .ok (.iadd, 1) := by decide +kernel
theorem dX6_line_12 : decode cX6_line 12 = .ok (.iload_n 3, 1) := by decide +kernel
theorem dX6_line_13 : decode cX6_line 13 = .ok (.iadd, 1) := by decide +kernel
theorem dX6_line_14 : decode cX6_line 14 = .ok (.invokevirtual 30, 3) := by decide +kernel
theorem dX6_line_17 : decode cX6_line 17 = .ok (.ireturn, 1) := by decide +kernel
theorem dX6_append_0 : decode cX6_append 0 = .ok (.aload_n 0, 1) := by decide +kernel
theorem dX6_append_1 : decode cX6_append 1 = .ok (.getfield 26, 3) := by decide +kernel
theorem dX6_append_4 : decode cX6_append 4 = .ok (.bipush 12, 2) := by decide +kernel
theorem dX6_append_6 : decode cX6_append 6 = .ok (.if_icmp .lt 4, 3) := by decide +kernel
theorem dX6_append_9 : decode cX6_append 9 = .ok (.return_, 1) := by decide +kernel
theorem dX6_append_10 : decode cX6_append 10 = .ok (.aload_n 0, 1) := by decide +kernel
theorem dX6_append_11 : decode cX6_append 11 = .ok (.getfield 14, 3) := by decide +kernel
theorem dX6_append_14 : decode cX6_append 14 = .ok (.aload_n 0, 1) := by decide +kernel
theorem dX6_append_15 : decode cX6_append 15 = .ok (.getfield 26, 3) := by decide +kernel
theorem dX6_append_18 : decode cX6_append 18 = .ok (.aload_n 1, 1) := by decide +kernel
theorem dX6_append_19 : decode cX6_append 19 = .ok (.invokevirtual 34, 3) := by decide +kernel
theorem dX6_append_22 : decode cX6_append 22 = .ok (.invokevirtual 40, 3) := by decide +kernel
theorem dX6_append_25 : decode cX6_append 25 = .ok (.iconst 0, 1) := by decide +kernel
theorem dX6_append_26 : decode cX6_append 26 = .ok (.istore_n 2, 1) := by decide +kernel
theorem dX6_append_27 : decode cX6_append 27 = .ok (.iload_n 2, 1) := by decide +kernel
theorem dX6_append_28 : decode cX6_append 28 = .ok (.bipush 8, 2) := by decide +kernel
theorem dX6_append_30 : decode cX6_append 30 = .ok (.if_icmp .ge 67, 3) := by decide +kernel
theorem dX6_append_33 : decode cX6_append 33 = .ok (.iconst 0, 1) := by decide +kernel
theorem dX6_append_34 : decode cX6_append 34 = .ok (.istore_n 3, 1) := by decide +kernel
theorem dX6_append_35 : decode cX6_append 35 = .ok (.iload_n 3, 1) := by decide +kernel
theorem dX6_append_36 : decode cX6_append 36 = .ok (.iconst 4, 1) := by decide +kernel
theorem dX6_append_37 : decode cX6_append 37 = .ok (.if_icmp .ge 54, 3) := by decide +kernel
theorem dX6_append_40 : decode cX6_append 40 = .ok (.aload_n 0, 1) := by decide +kernel
theorem dX6_append_41 : decode cX6_append 41 = .ok (.getfield 26, 3) := by decide +kernel
theorem dX6_append_44 : decode cX6_append 44 = .ok (.bipush 32, 2) := by decide +kernel
theorem dX6_append_46 : decode cX6_append 46 = .ok (.imul, 1) := by decide +kernel
theorem dX6_append_47 : decode cX6_append 47 = .ok (.iload_n 2, 1) := by decide +kernel
theorem dX6_append_48 : decode cX6_append 48 = .ok (.iconst 4, 1) := by decide +kernel
theorem dX6_append_49 : decode cX6_append 49 = .ok (.imul, 1) := by decide +kernel
theorem dX6_append_50 : decode cX6_append 50 = .ok (.iadd, 1) := by decide +kernel
theorem dX6_append_51 : decode cX6_append 51 = .ok (.iload_n 3, 1) := by decide +kernel
theorem dX6_append_52 : decode cX6_append 52 = .ok (.iadd, 1) := by decide +kernel
theorem dX6_append_53 : decode cX6_append 53 = .ok (.istore 4, 2) := by decide +kernel
theorem dX6_append_55 : decode cX6_append 55 = .ok (.aload_n 0, 1) := by decide +kernel
theorem dX6_append_56 : decode cX6_append 56 = .ok (.getfield 20, 3) := by decide +kernel
theorem dX6_append_59 : decode cX6_append 59 = .ok (.iload 4, 2) := by decide +kernel
theorem dX6_append_61 : decode cX6_append 61 = .ok (.aload_n 1, 1) := by decide +kernel
theorem dX6_append_62 : decode cX6_append 62 = .ok (.iload_n 2, 1) := by decide +kernel
theorem dX6_append_63 : decode cX6_append 63 = .ok (.iload_n 3, 1) := by decide +kernel
theorem dX6_append_64 : decode cX6_append 64 = .ok (.invokevirtual 44, 3) := by decide +kernel
theorem dX6_append_67 : decode cX6_append 67 = .ok (.invokevirtual 40, 3) := by decide +kernel
theorem dX6_append_70 : decode cX6_append 70 = .ok (.aload_n 0, 1) := by decide +kernel
theorem dX6_append_71 : decode cX6_append 71 = .ok (.getfield 23, 3) := by decide +kernel
theorem dX6_append_74 : decode cX6_append 74 = .ok (.iload 4, 2) := by decide +kernel
theorem dX6_append_76 : decode cX6_append 76 = .ok (.aload_n 1, 1) := by decide +kernel
theorem dX6_append_77 : decode cX6_append 77 = .ok (.iload_n 2, 1) := by decide +kernel
theorem dX6_append_78 : decode cX6_append 78 = .ok (.iload_n 3, 1) := by decide +kernel
theorem dX6_append_79 : decode cX6_append 79 = .ok (.invokevirtual 48, 3) := by decide +kernel
theorem dX6_append_82 : decode cX6_append 82 = .ok (.invokevirtual 40, 3) := by decide +kernel
theorem dX6_append_85 : decode cX6_append 85 = .ok (.iinc 3 1, 3) := by decide +kernel
theorem dX6_append_88 : decode cX6_append 88 = .ok (.goto (-53), 3) := by decide +kernel
theorem dX6_append_91 : decode cX6_append 91 = .ok (.iinc 2 1, 3) := by decide +kernel
theorem dX6_append_94 : decode cX6_append 94 = .ok (.goto (-67), 3) := by decide +kernel
theorem dX6_append_97 : decode cX6_append 97 = .ok (.aload_n 0, 1) := by decide +kernel
theorem dX6_append_98 : decode cX6_append 98 = .ok (.dup, 1) := by decide +kernel
theorem dX6_append_99 : decode cX6_append 99 = .ok (.getfield 26, 3) := by decide +kernel
theorem dX6_append_102 : decode cX6_append 102 = .ok (.iconst 1, 1) := by decide +kernel
theorem dX6_append_103 : decode cX6_append 103 = .ok (.iadd, 1) := by decide +kernel
theorem dX6_append_104 : decode cX6_append 104 = .ok (.putfield 26, 3) := by decide +kernel
theorem dX6_append_107 : decode cX6_append 107 = .ok (.return_, 1) := by decide +kernel
theorem dX6_remove_0 : decode cX6_remove 0 = .ok (.iload_n 1, 1) := by decide +kernel
theorem dX6_remove_1 : decode cX6_remove 1 = .ok (.ifCond .lt 11, 3) := by decide +kernel
theorem dX6_remove_4 : decode cX6_remove 4 = .ok (.iload_n 1, 1) := by decide +kernel
theorem dX6_remove_5 : decode cX6_remove 5 = .ok (.aload_n 0, 1) := by decide +kernel
theorem dX6_remove_6 : decode cX6_remove 6 = .ok (.getfield 26, 3) := by decide +kernel
theorem dX6_remove_9 : decode cX6_remove 9 = .ok (.if_icmp .lt 4, 3) := by decide +kernel
theorem dX6_remove_12 : decode cX6_remove 12 = .ok (.return_, 1) := by decide +kernel
theorem dX6_remove_13 : decode cX6_remove 13 = .ok (.aload_n 0, 1) := by decide +kernel
theorem dX6_remove_14 : decode cX6_remove 14 = .ok (.getfield 14, 3) := by decide +kernel
theorem dX6_remove_17 : decode cX6_remove 17 = .ok (.iload_n 1, 1) := by decide +kernel
theorem dX6_remove_18 : decode cX6_remove 18 = .ok (.iconst 1, 1) := by decide +kernel
theorem dX6_remove_19 : decode cX6_remove 19 = .ok (.invokevirtual 51, 3) := by decide +kernel
theorem dX6_remove_22 : decode cX6_remove 22 = .ok (.aload_n 0, 1) := by decide +kernel
theorem dX6_remove_23 : decode cX6_remove 23 = .ok (.getfield 20, 3) := by decide +kernel
theorem dX6_remove_26 : decode cX6_remove 26 = .ok (.iload_n 1, 1) := by decide +kernel
theorem dX6_remove_27 : decode cX6_remove 27 = .ok (.bipush 32, 2) := by decide +kernel
theorem dX6_remove_29 : decode cX6_remove 29 = .ok (.imul, 1) := by decide +kernel
theorem dX6_remove_30 : decode cX6_remove 30 = .ok (.bipush 32, 2) := by decide +kernel
theorem dX6_remove_32 : decode cX6_remove 32 = .ok (.invokevirtual 51, 3) := by decide +kernel
theorem dX6_remove_35 : decode cX6_remove 35 = .ok (.aload_n 0, 1) := by decide +kernel
theorem dX6_remove_36 : decode cX6_remove 36 = .ok (.getfield 23, 3) := by decide +kernel
theorem dX6_remove_39 : decode cX6_remove 39 = .ok (.iload_n 1, 1) := by decide +kernel
theorem dX6_remove_40 : decode cX6_remove 40 = .ok (.bipush 32, 2) := by decide +kernel
theorem dX6_remove_42 : decode cX6_remove 42 = .ok (.imul, 1) := by decide +kernel
theorem dX6_remove_43 : decode cX6_remove 43 = .ok (.bipush 32, 2) := by decide +kernel
theorem dX6_remove_45 : decode cX6_remove 45 = .ok (.invokevirtual 51, 3) := by decide +kernel
theorem dX6_remove_48 : decode cX6_remove 48 = .ok (.aload_n 0, 1) := by decide +kernel
theorem dX6_remove_49 : decode cX6_remove 49 = .ok (.dup, 1) := by decide +kernel
theorem dX6_remove_50 : decode cX6_remove 50 = .ok (.getfield 26, 3) := by decide +kernel
theorem dX6_remove_53 : decode cX6_remove 53 = .ok (.iconst 1, 1) := by decide +kernel
theorem dX6_remove_54 : decode cX6_remove 54 = .ok (.isub, 1) := by decide +kernel
theorem dX6_remove_55 : decode cX6_remove 55 = .ok (.putfield 26, 3) := by decide +kernel
theorem dX6_remove_58 : decode cX6_remove 58 = .ok (.return_, 1) := by decide +kernel
theorem dX6_copy_0 : decode cX6_copy 0 = .ok (.aload_n 0, 1) := by decide +kernel
theorem dX6_copy_1 : decode cX6_copy 1 = .ok (.getfield 14, 3) := by decide +kernel
theorem dX6_copy_4 : decode cX6_copy 4 = .ok (.aload_n 1, 1) := by decide +kernel
theorem dX6_copy_5 : decode cX6_copy 5 = .ok (.getfield 14, 3) := by decide +kernel
theorem dX6_copy_8 : decode cX6_copy 8 = .ok (.invokevirtual 54, 3) := by decide +kernel
theorem dX6_copy_11 : decode cX6_copy 11 = .ok (.aload_n 0, 1) := by decide +kernel
theorem dX6_copy_12 : decode cX6_copy 12 = .ok (.getfield 20, 3) := by decide +kernel
theorem dX6_copy_15 : decode cX6_copy 15 = .ok (.aload_n 1, 1) := by decide +kernel
theorem dX6_copy_16 : decode cX6_copy 16 = .ok (.getfield 20, 3) := by decide +kernel
theorem dX6_copy_19 : decode cX6_copy 19 = .ok (.invokevirtual 54, 3) := by decide +kernel
theorem dX6_copy_22 : decode cX6_copy 22 = .ok (.aload_n 0, 1) := by decide +kernel
theorem dX6_copy_23 : decode cX6_copy 23 = .ok (.getfield 23, 3) := by decide +kernel
theorem dX6_copy_26 : decode cX6_copy 26 = .ok (.aload_n 1, 1) := by decide +kernel
theorem dX6_copy_27 : decode cX6_copy 27 = .ok (.getfield 23, 3) := by decide +kernel
theorem dX6_copy_30 : decode cX6_copy 30 = .ok (.invokevirtual 54, 3) := by decide +kernel
theorem dX6_copy_33 : decode cX6_copy 33 = .ok (.aload_n 0, 1) := by decide +kernel
theorem dX6_copy_34 : decode cX6_copy 34 = .ok (.aload_n 1, 1) := by decide +kernel
theorem dX6_copy_35 : decode cX6_copy 35 = .ok (.getfield 26, 3) := by decide +kernel
theorem dX6_copy_38 : decode cX6_copy 38 = .ok (.putfield 26, 3) := by decide +kernel
theorem dX6_copy_41 : decode cX6_copy 41 = .ok (.return_, 1) := by decide +kernel
theorem dX7_init_0 : decode cX7_init 0 = .ok (.aload_n 0, 1) := by decide +kernel
theorem dX7_init_1 : decode cX7_init 1 = .ok (.invokespecial 3, 3) := by decide +kernel
theorem dX7_init_4 : decode cX7_init 4 = .ok (.aload_n 0, 1) := by decide +kernel
theorem dX7_init_5 : decode cX7_init 5 = .ok (.new 9, 3) := by decide +kernel
theorem dX7_init_8 : decode cX7_init 8 = .ok (.dup, 1) := by decide +kernel
theorem dX7_init_9 : decode cX7_init 9 = .ok (.bipush 60, 2) := by decide +kernel
theorem dX7_init_11 : decode cX7_init 11 = .ok (.invokespecial 11, 3) := by decide +kernel
theorem dX7_init_14 : decode cX7_init 14 = .ok (.putfield 14, 3) := by decide +kernel
theorem dX7_init_17 : decode cX7_init 17 = .ok (.aload_n 0, 1) := by decide +kernel
theorem dX7_init_18 : decode cX7_init 18 = .ok (.new 20, 3) := by decide +kernel
theorem dX7_init_21 : decode cX7_init 21 = .ok (.dup, 1) := by decide +kernel
theorem dX7_init_22 : decode cX7_init 22 = .ok (.invokespecial 22, 3) := by decide +kernel
theorem dX7_init_25 : decode cX7_init 25 = .ok (.putfield 23, 3) := by decide +kernel
theorem dX7_init_28 : decode cX7_init 28 = .ok (.return_, 1) := by decide +kernel
theorem dX7_length_0 : decode cX7_length 0 = .ok (.aload_n 0, 1) := by decide +kernel
theorem dX7_length_1 : decode cX7_length 1 = .ok (.getfield 27, 3) := by decide +kernel
theorem dX7_length_4 : decode cX7_length 4 = .ok (.ireturn, 1) := by decide +kernel
theorem dX8_init_0 : decode cX8_init 0 = .ok (.aload_n 0, 1) := by decide +kernel
theorem dX8_init_1 : decode cX8_init 1 = .ok (.invokespecial 1, 3) := by decide +kernel
theorem dX8_init_4 : decode cX8_init 4 = .ok (.aload_n 0, 1) := by decide +kernel
theorem dX8_init_5 : decode cX8_init 5 = .ok (.new 7, 3) := by decide +kernel
theorem dX8_init_8 : decode cX8_init 8 = .ok (.dup, 1) := by decide +kernel
theorem dX8_init_9 : decode cX8_init 9 = .ok (.invokespecial 9, 3) := by decide +kernel
theorem dX8_init_12 : decode cX8_init 12 = .ok (.putfield 10, 3) := by decide +kernel
theorem dX8_init_15 : decode cX8_init 15 = .ok (.aload_n 0, 1) := by decide +kernel
theorem dX8_init_16 : decode cX8_init 16 = .ok (.new 7, 3) := by decide +kernel
theorem dX8_init_19 : decode cX8_init 19 = .ok (.dup, 1) := by decide +kernel
theorem dX8_init_20 : decode cX8_init 20 = .ok (.invokespecial 9, 3) := by decide +kernel
theorem dX8_init_23 : decode cX8_init 23 = .ok (.putfield 16, 3) := by decide +kernel
theorem dX8_init_26 : decode cX8_init 26 = .ok (.aload_n 0, 1) := by decide +kernel
theorem dX8_init_27 : decode cX8_init 27 = .ok (.new 19, 3) := by decide +kernel
theorem dX8_init_30 : decode cX8_init 30 = .ok (.dup, 1) := by decide +kernel
theorem dX8_init_31 : decode cX8_init 31 = .ok (.invokespecial 21, 3) := by decide +kernel
theorem dX8_init_34 : decode cX8_init 34 = .ok (.putfield 22, 3) := by decide +kernel
theorem dX8_init_37 : decode cX8_init 37 = .ok (.aload_n 0, 1) := by decide +kernel
theorem dX8_init_38 : decode cX8_init 38 = .ok (.new 26, 3) := by decide +kernel
theorem dX8_init_41 : decode cX8_init 41 = .ok (.dup, 1) := by decide +kernel
theorem dX8_init_42 : decode cX8_init 42 = .ok (.invokespecial 28, 3) := by decide +kernel
theorem dX8_init_45 : decode cX8_init 45 = .ok (.putfield 29, 3) := by decide +kernel
theorem dX8_init_48 : decode cX8_init 48 = .ok (.aload_n 0, 1) := by decide +kernel
theorem dX8_init_49 : decode cX8_init 49 = .ok (.new 33, 3) := by decide +kernel
theorem dX8_init_52 : decode cX8_init 52 = .ok (.dup, 1) := by decide +kernel
theorem dX8_init_53 : decode cX8_init 53 = .ok (.invokespecial 35, 3) := by decide +kernel
theorem dX8_init_56 : decode cX8_init 56 = .ok (.putfield 36, 3) := by decide +kernel
theorem dX8_init_59 : decode cX8_init 59 = .ok (.aload_n 0, 1) := by decide +kernel
theorem dX8_init_60 : decode cX8_init 60 = .ok (.new 40, 3) := by decide +kernel
theorem dX8_init_63 : decode cX8_init 63 = .ok (.dup, 1) := by decide +kernel
theorem dX8_init_64 : decode cX8_init 64 = .ok (.invokespecial 42, 3) := by decide +kernel
theorem dX8_init_67 : decode cX8_init 67 = .ok (.putfield 43, 3) := by decide +kernel
theorem dX8_init_70 : decode cX8_init 70 = .ok (.return_, 1) := by decide +kernel
theorem dX8_reset_0 : decode cX8_reset 0 = .ok (.iload_n 1, 1) := by decide +kernel
theorem dX8_reset_1 : decode cX8_reset 1 = .ok (.iconst 1, 1) := by decide +kernel
theorem dX8_reset_2 : decode cX8_reset 2 = .ok (.bipush 6, 2) := by decide +kernel
theorem dX8_reset_4 : decode cX8_reset 4 = .ok (.invokestatic 47, 3) := by decide +kernel
theorem dX8_reset_7 : decode cX8_reset 7 = .ok (.ifCond .eq 13, 3) := by decide +kernel
theorem dX8_reset_10 : decode cX8_reset 10 = .ok (.iload_n 2, 1) := by decide +kernel
theorem dX8_reset_11 : decode cX8_reset 11 = .ok (.iconst 1, 1) := by decide +kernel
theorem dX8_reset_12 : decode cX8_reset 12 = .ok (.bipush 6, 2) := by decide +kernel
theorem dX8_reset_14 : decode cX8_reset 14 = .ok (.invokestatic 47, 3) := by decide +kernel
theorem dX8_reset_17 : decode cX8_reset 17 = .ok (.ifCond .ne 7, 3) := by decide +kernel
theorem dX8_reset_20 : decode cX8_reset 20 = .ok (.sipush (-1001), 3) := by decide +kernel
theorem dX8_reset_23 : decode cX8_reset 23 = .ok (.ireturn, 1) := by decide +kernel
theorem dX8_reset_24 : decode cX8_reset 24 = .ok (.aload_n 0, 1) := by decide +kernel
theorem dX8_reset_25 : decode cX8_reset 25 = .ok (.getfield 10, 3) := by decide +kernel
theorem dX8_reset_28 : decode cX8_reset 28 = .ok (.invokevirtual 51, 3) := by decide +kernel
theorem dX8_reset_31 : decode cX8_reset 31 = .ok (.istore_n 3, 1) := by decide +kernel
theorem dX8_reset_32 : decode cX8_reset 32 = .ok (.aload_n 0, 1) := by decide +kernel
theorem dX8_reset_33 : decode cX8_reset 33 = .ok (.getfield 22, 3) := by decide +kernel
theorem dX8_reset_36 : decode cX8_reset 36 = .ok (.aload_n 0, 1) := by decide +kernel
theorem dX8_reset_37 : decode cX8_reset 37 = .ok (.getfield 10, 3) := by decide +kernel
theorem dX8_reset_40 : decode cX8_reset 40 = .ok (.invokevirtual 55, 3) := by decide +kernel
theorem dX8_reset_43 : decode cX8_reset 43 = .ok (.aload_n 0, 1) := by decide +kernel
theorem dX8_reset_44 : decode cX8_reset 44 = .ok (.getfield 10, 3) := by decide +kernel
theorem dX8_reset_47 : decode cX8_reset 47 = .ok (.getfield 59, 3) := by decide +kernel
theorem dX8_reset_50 : decode cX8_reset 50 = .ok (.iload_n 1, 1) := by decide +kernel
theorem dX8_reset_51 : decode cX8_reset 51 = .ok (.iload_n 2, 1) := by decide +kernel
theorem dX8_reset_52 : decode cX8_reset 52 = .ok (.invokevirtual 63, 3) := by decide +kernel
theorem dX8_reset_55 : decode cX8_reset 55 = .ok (.iload_n 3, 1) := by decide +kernel
theorem dX8_reset_56 : decode cX8_reset 56 = .ok (.ireturn, 1) := by decide +kernel
theorem dX8_addScrap_0 : decode cX8_addScrap 0 = .ok (.iload_n 1, 1) := by decide +kernel
theorem dX8_addScrap_1 : decode cX8_addScrap 1 = .ok (.invokestatic 69, 3) := by decide +kernel
theorem dX8_addScrap_4 : decode cX8_addScrap 4 = .ok (.ifCond .eq 35, 3) := by decide +kernel
theorem dX8_addScrap_7 : decode cX8_addScrap 7 = .ok (.iload_n 2, 1) := by decide +kernel
theorem dX8_addScrap_8 : decode cX8_addScrap 8 = .ok (.invokestatic 69, 3) := by decide +kernel
theorem dX8_addScrap_11 : decode cX8_addScrap 11 = .ok (.ifCond .eq 28, 3) := by decide +kernel
theorem dX8_addScrap_14 : decode cX8_addScrap 14 = .ok (.iload_n 3, 1) := by decide +kernel
theorem dX8_addScrap_15 : decode cX8_addScrap 15 = .ok (.invokestatic 69, 3) := by decide +kernel
theorem dX8_addScrap_18 : decode cX8_addScrap 18 = .ok (.ifCond .eq 21, 3) := by decide +kernel
theorem dX8_addScrap_21 : decode cX8_addScrap 21 = .ok (.iload 4, 2) := by decide +kernel
theorem dX8_addScrap_23 : decode cX8_addScrap 23 = .ok (.invokestatic 69, 3) := by decide +kernel
theorem dX8_addScrap_26 : decode cX8_addScrap 26 = .ok (.ifCond .eq 13, 3) := by decide +kernel
theorem dX8_addScrap_29 : decode cX8_addScrap 29 = .ok (.iload 5, 2) := by decide +kernel
theorem dX8_addScrap_31 : decode cX8_addScrap 31 = .ok (.iconst 0, 1) := by decide +kernel
theorem dX8_addScrap_32 : decode cX8_addScrap 32 = .ok (.iconst 1, 1) := by decide +kernel
theorem dX8_addScrap_33 : decode cX8_addScrap 33 = .ok (.invokestatic 47, 3) := by decide +kernel
theorem dX8_addScrap_36 : decode cX8_addScrap 36 = .ok (.ifCond .ne 7, 3) := by decide +kernel
theorem dX8_addScrap_39 : decode cX8_addScrap 39 = .ok (.sipush (-1001), 3) := by decide +kernel
theorem dX8_addScrap_42 : decode cX8_addScrap 42 = .ok (.ireturn, 1) := by decide +kernel
theorem dX8_addScrap_43 : decode cX8_addScrap 43 = .ok (.aload_n 0, 1) := by decide +kernel
theorem dX8_addScrap_44 : decode cX8_addScrap 44 = .ok (.getfield 10, 3) := by decide +kernel
theorem dX8_addScrap_47 : decode cX8_addScrap 47 = .ok (.getfield 73, 3) := by decide +kernel
theorem dX8_addScrap_50 : decode cX8_addScrap 50 = .ok (.invokevirtual 77, 3) := by decide +kernel
theorem dX8_addScrap_53 : decode cX8_addScrap 53 = .ok (.bipush 12, 2) := by decide +kernel
theorem dX8_addScrap_55 : decode cX8_addScrap 55 = .ok (.if_icmp .lt 7, 3) := by decide +kernel
theorem dX8_addScrap_58 : decode cX8_addScrap 58 = .ok (.sipush (-1003), 3) := by decide +kernel
theorem dX8_addScrap_61 : decode cX8_addScrap 61 = .ok (.ireturn, 1) := by decide +kernel
theorem dX8_addScrap_62 : decode cX8_addScrap 62 = .ok (.aload_n 0, 1) := by decide +kernel
theorem dX8_addScrap_63 : decode cX8_addScrap 63 = .ok (.getfield 43, 3) := by decide +kernel
theorem dX8_addScrap_66 : decode cX8_addScrap 66 = .ok (.iconst 0, 1) := by decide +kernel
theorem dX8_addScrap_67 : decode cX8_addScrap 67 = .ok (.iload_n 1, 1) := by decide +kernel
theorem dX8_addScrap_68 : decode cX8_addScrap 68 = .ok (.iconst 0, 1) := by decide +kernel
theorem dX8_addScrap_69 : decode cX8_addScrap 69 = .ok (.invokevirtual 82, 3) := by decide +kernel
theorem dX8_addScrap_72 : decode cX8_addScrap 72 = .ok (.aload_n 0, 1) := by decide +kernel
theorem dX8_addScrap_73 : decode cX8_addScrap 73 = .ok (.getfield 43, 3) := by decide +kernel
theorem dX8_addScrap_76 : decode cX8_addScrap 76 = .ok (.iconst 1, 1) := by decide +kernel
theorem dX8_addScrap_77 : decode cX8_addScrap 77 = .ok (.iload_n 2, 1) := by decide +kernel
theorem dX8_addScrap_78 : decode cX8_addScrap 78 = .ok (.iconst 0, 1) := by decide +kernel
theorem dX8_addScrap_79 : decode cX8_addScrap 79 = .ok (.invokevirtual 82, 3) := by decide +kernel
theorem dX8_addScrap_82 : decode cX8_addScrap 82 = .ok (.aload_n 0, 1) := by decide +kernel
theorem dX8_addScrap_83 : decode cX8_addScrap 83 = .ok (.getfield 43, 3) := by decide +kernel
theorem dX8_addScrap_86 : decode cX8_addScrap 86 = .ok (.iconst 2, 1) := by decide +kernel
theorem dX8_addScrap_87 : decode cX8_addScrap 87 = .ok (.iload_n 3, 1) := by decide +kernel
theorem dX8_addScrap_88 : decode cX8_addScrap 88 = .ok (.iconst 0, 1) := by decide +kernel
theorem dX8_addScrap_89 : decode cX8_addScrap 89 = .ok (.invokevirtual 82, 3) := by decide +kernel
theorem dX8_addScrap_92 : decode cX8_addScrap 92 = .ok (.aload_n 0, 1) := by decide +kernel
theorem dX8_addScrap_93 : decode cX8_addScrap 93 = .ok (.getfield 43, 3) := by decide +kernel
theorem dX8_addScrap_96 : decode cX8_addScrap 96 = .ok (.iconst 3, 1) := by decide +kernel
theorem dX8_addScrap_97 : decode cX8_addScrap 97 = .ok (.iload 4, 2) := by decide +kernel
theorem dX8_addScrap_99 : decode cX8_addScrap 99 = .ok (.iconst 0, 1) := by decide +kernel
theorem dX8_addScrap_100 : decode cX8_addScrap 100 = .ok (.invokevirtual 82, 3) := by decide +kernel
theorem dX8_addScrap_103 : decode cX8_addScrap 103 = .ok (.aload_n 0, 1) := by decide +kernel
theorem dX8_addScrap_104 : decode cX8_addScrap 104 = .ok (.getfield 43, 3) := by decide +kernel
theorem dX8_addScrap_107 : decode cX8_addScrap 107 = .ok (.iload 5, 2) := by decide +kernel
theorem dX8_addScrap_109 : decode cX8_addScrap 109 = .ok (.invokevirtual 86, 3) := by decide +kernel
theorem dX8_addScrap_112 : decode cX8_addScrap 112 = .ok (.aload_n 0, 1) := by decide +kernel
theorem dX8_addScrap_113 : decode cX8_addScrap 113 = .ok (.aload_n 0, 1) := by decide +kernel
theorem dX8_addScrap_114 : decode cX8_addScrap 114 = .ok (.getfield 43, 3) := by decide +kernel
theorem dX8_addScrap_117 : decode cX8_addScrap 117 = .ok (.invokevirtual 90, 3) := by decide +kernel
theorem dX8_addScrap_120 : decode cX8_addScrap 120 = .ok (.ireturn, 1) := by decide +kernel
theorem dX8_removeScrap_0 : decode cX8_removeScrap 0 = .ok (.aload_n 0, 1) := by decide +kernel
theorem dX8_removeScrap_1 : decode cX8_removeScrap 1 = .ok (.iload_n 1, 1) := by decide +kernel
theorem dX8_removeScrap_2 : decode cX8_removeScrap 2 = .ok (.invokevirtual 104, 3) := by decide +kernel
theorem dX8_removeScrap_5 : decode cX8_removeScrap 5 = .ok (.ifCond .ne 7, 3) := by decide +kernel
theorem dX8_removeScrap_8 : decode cX8_removeScrap 8 = .ok (.sipush (-1001), 3) := by decide +kernel
theorem dX8_removeScrap_11 : decode cX8_removeScrap 11 = .ok (.ireturn, 1) := by decide +kernel
theorem dX8_removeScrap_12 : decode cX8_removeScrap 12 = .ok (.aload_n 0, 1) := by decide +kernel
theorem dX8_removeScrap_13 : decode cX8_removeScrap 13 = .ok (.getfield 22, 3) := by decide +kernel
theorem dX8_removeScrap_16 : decode cX8_removeScrap 16 = .ok (.aload_n 0, 1) := by decide +kernel
theorem dX8_removeScrap_17 : decode cX8_removeScrap 17 = .ok (.getfield 10, 3) := by decide +kernel
theorem dX8_removeScrap_20 : decode cX8_removeScrap 20 = .ok (.invokevirtual 55, 3) := by decide +kernel
theorem dX8_removeScrap_23 : decode cX8_removeScrap 23 = .ok (.aload_n 0, 1) := by decide +kernel
theorem dX8_removeScrap_24 : decode cX8_removeScrap 24 = .ok (.getfield 10, 3) := by decide +kernel
theorem dX8_removeScrap_27 : decode cX8_removeScrap 27 = .ok (.iload_n 1, 1) := by decide +kernel
theorem dX8_removeScrap_28 : decode cX8_removeScrap 28 = .ok (.invokevirtual 107, 3) := by decide +kernel
theorem dX8_removeScrap_31 : decode cX8_removeScrap 31 = .ok (.aload_n 0, 1) := by decide +kernel
theorem dX8_removeScrap_32 : decode cX8_removeScrap 32 = .ok (.getfield 10, 3) := by decide +kernel
theorem dX8_removeScrap_35 : decode cX8_removeScrap 35 = .ok (.getfield 73, 3) := by decide +kernel
theorem dX8_removeScrap_38 : decode cX8_removeScrap 38 = .ok (.invokevirtual 77, 3) := by decide +kernel
theorem dX8_removeScrap_41 : decode cX8_removeScrap 41 = .ok (.ireturn, 1) := by decide +kernel
theorem dX8_scrap_0 : decode cX8_scrap 0 = .ok (.aload_n 0, 1) := by decide +kernel
theorem dX8_scrap_1 : decode cX8_scrap 1 = .ok (.iload_n 1, 1) := by decide +kernel
theorem dX8_scrap_2 : decode cX8_scrap 2 = .ok (.invokevirtual 104, 3) := by decide +kernel
theorem dX8_scrap_5 : decode cX8_scrap 5 = .ok (.ifCond .eq 12, 3) := by decide +kernel
theorem dX8_scrap_8 : decode cX8_scrap 8 = .ok (.iload_n 2, 1) := by decide +kernel
theorem dX8_scrap_9 : decode cX8_scrap 9 = .ok (.iconst 0, 1) := by decide +kernel
theorem dX8_scrap_10 : decode cX8_scrap 10 = .ok (.iconst 5, 1) := by decide +kernel
theorem dX8_scrap_11 : decode cX8_scrap 11 = .ok (.invokestatic 47, 3) := by decide +kernel
theorem dX8_scrap_14 : decode cX8_scrap 14 = .ok (.ifCond .ne 7, 3) := by decide +kernel
theorem dX8_scrap_17 : decode cX8_scrap 17 = .ok (.sipush (-1001), 3) := by decide +kernel
theorem dX8_scrap_20 : decode cX8_scrap 20 = .ok (.ireturn, 1) := by decide +kernel
theorem dX8_scrap_21 : decode cX8_scrap 21 = .ok (.iload_n 2, 1) := by decide +kernel
theorem dX8_scrap_22 : decode cX8_scrap 22 = .ok (.iconst 1, 1) := by decide +kernel
theorem dX8_scrap_23 : decode cX8_scrap 23 = .ok (.if_icmp .le 21, 3) := by decide +kernel
theorem dX8_scrap_26 : decode cX8_scrap 26 = .ok (.aload_n 0, 1) := by decide +kernel
theorem dX8_scrap_27 : decode cX8_scrap 27 = .ok (.getfield 10, 3) := by decide +kernel
theorem dX8_scrap_30 : decode cX8_scrap 30 = .ok (.getfield 59, 3) := by decide +kernel
theorem dX8_scrap_33 : decode cX8_scrap 33 = .ok (.iload_n 1, 1) := by decide +kernel
theorem dX8_scrap_34 : decode cX8_scrap 34 = .ok (.invokevirtual 110, 3) := by decide +kernel
theorem dX8_scrap_37 : decode cX8_scrap 37 = .ok (.ifCond .ne 7, 3) := by decide +kernel
theorem dX8_scrap_40 : decode cX8_scrap 40 = .ok (.sipush (-1004), 3) := by decide +kernel
theorem dX8_scrap_43 : decode cX8_scrap 43 = .ok (.ireturn, 1) := by decide +kernel
theorem dX8_scrap_44 : decode cX8_scrap 44 = .ok (.iload_n 2, 1) := by decide +kernel
theorem dX8_scrap_45 : decode cX8_scrap 45 = .ok (.tableswitch 100 0 4 #[35, 47, 59, 71, 91], 35) := by decide +kernel
theorem dX8_scrap_80 : decode cX8_scrap 80 = .ok (.aload_n 0, 1) := by decide +kernel
theorem dX8_scrap_81 : decode cX8_scrap 81 = .ok (.getfield 10, 3) := by decide +kernel
theorem dX8_scrap_84 : decode cX8_scrap 84 = .ok (.getfield 73, 3) := by decide +kernel
theorem dX8_scrap_87 : decode cX8_scrap 87 = .ok (.iload_n 1, 1) := by decide +kernel
theorem dX8_scrap_88 : decode cX8_scrap 88 = .ok (.invokevirtual 113, 3) := by decide +kernel
theorem dX8_scrap_91 : decode cX8_scrap 91 = .ok (.ireturn, 1) := by decide +kernel
theorem dX8_scrap_92 : decode cX8_scrap 92 = .ok (.aload_n 0, 1) := by decide +kernel
theorem dX8_scrap_93 : decode cX8_scrap 93 = .ok (.getfield 10, 3) := by decide +kernel
theorem dX8_scrap_96 : decode cX8_scrap 96 = .ok (.getfield 59, 3) := by decide +kernel
theorem dX8_scrap_99 : decode cX8_scrap 99 = .ok (.iload_n 1, 1) := by decide +kernel
theorem dX8_scrap_100 : decode cX8_scrap 100 = .ok (.invokevirtual 117, 3) := by decide +kernel
theorem dX8_scrap_103 : decode cX8_scrap 103 = .ok (.ireturn, 1) := by decide +kernel
theorem dX8_scrap_104 : decode cX8_scrap 104 = .ok (.aload_n 0, 1) := by decide +kernel
theorem dX8_scrap_105 : decode cX8_scrap 105 = .ok (.getfield 10, 3) := by decide +kernel
theorem dX8_scrap_108 : decode cX8_scrap 108 = .ok (.getfield 59, 3) := by decide +kernel
theorem dX8_scrap_111 : decode cX8_scrap 111 = .ok (.iload_n 1, 1) := by decide +kernel
theorem dX8_scrap_112 : decode cX8_scrap 112 = .ok (.invokevirtual 120, 3) := by decide +kernel
theorem dX8_scrap_115 : decode cX8_scrap 115 = .ok (.ireturn, 1) := by decide +kernel
theorem dX8_scrap_116 : decode cX8_scrap 116 = .ok (.aload_n 0, 1) := by decide +kernel
theorem dX8_scrap_117 : decode cX8_scrap 117 = .ok (.getfield 29, 3) := by decide +kernel
theorem dX8_scrap_120 : decode cX8_scrap 120 = .ok (.aload_n 0, 1) := by decide +kernel
theorem dX8_scrap_121 : decode cX8_scrap 121 = .ok (.getfield 10, 3) := by decide +kernel
theorem dX8_scrap_124 : decode cX8_scrap 124 = .ok (.invokevirtual 123, 3) := by decide +kernel
theorem dX8_scrap_127 : decode cX8_scrap 127 = .ok (.aload_n 0, 1) := by decide +kernel
theorem dX8_scrap_128 : decode cX8_scrap 128 = .ok (.getfield 29, 3) := by decide +kernel
theorem dX8_scrap_131 : decode cX8_scrap 131 = .ok (.iload_n 1, 1) := by decide +kernel
theorem dX8_scrap_132 : decode cX8_scrap 132 = .ok (.invokevirtual 126, 3) := by decide +kernel
theorem dX8_scrap_135 : decode cX8_scrap 135 = .ok (.ireturn, 1) := by decide +kernel
theorem dX8_scrap_136 : decode cX8_scrap 136 = .ok (.aload_n 0, 1) := by decide +kernel
theorem dX8_scrap_137 : decode cX8_scrap 137 = .ok (.getfield 10, 3) := by decide +kernel
theorem dX8_scrap_140 : decode cX8_scrap 140 = .ok (.iload_n 1, 1) := by decide +kernel
theorem dX8_scrap_141 : decode cX8_scrap 141 = .ok (.invokevirtual 129, 3) := by decide +kernel
theorem dX8_scrap_144 : decode cX8_scrap 144 = .ok (.ireturn, 1) := by decide +kernel
theorem dX8_scrap_145 : decode cX8_scrap 145 = .ok (.aload_n 0, 1) := by decide +kernel
theorem dX8_scrap_146 : decode cX8_scrap 146 = .ok (.getfield 10, 3) := by decide +kernel
theorem dX8_scrap_149 : decode cX8_scrap 149 = .ok (.iload_n 1, 1) := by decide +kernel
theorem dX8_scrap_150 : decode cX8_scrap 150 = .ok (.invokevirtual 132, 3) := by decide +kernel
theorem dX8_scrap_153 : decode cX8_scrap 153 = .ok (.ireturn, 1) := by decide +kernel
theorem dX8_edge_0 : decode cX8_edge 0 = .ok (.aload_n 0, 1) := by decide +kernel
theorem dX8_edge_1 : decode cX8_edge 1 = .ok (.iload_n 1, 1) := by decide +kernel
theorem dX8_edge_2 : decode cX8_edge 2 = .ok (.invokevirtual 104, 3) := by decide +kernel
theorem dX8_edge_5 : decode cX8_edge 5 = .ok (.ifCond .eq 27, 3) := by decide +kernel
theorem dX8_edge_8 : decode cX8_edge 8 = .ok (.iload_n 2, 1) := by decide +kernel
theorem dX8_edge_9 : decode cX8_edge 9 = .ok (.invokestatic 135, 3) := by decide +kernel
theorem dX8_edge_12 : decode cX8_edge 12 = .ok (.ifCond .eq 20, 3) := by decide +kernel
theorem dX8_edge_15 : decode cX8_edge 15 = .ok (.iload_n 3, 1) := by decide +kernel
theorem dX8_edge_16 : decode cX8_edge 16 = .ok (.invokestatic 138, 3) := by decide +kernel
theorem dX8_edge_19 : decode cX8_edge 19 = .ok (.ifCond .eq 13, 3) := by decide +kernel
theorem dX8_edge_22 : decode cX8_edge 22 = .ok (.iload 4, 2) := by decide +kernel
theorem dX8_edge_24 : decode cX8_edge 24 = .ok (.iconst 0, 1) := by decide +kernel
theorem dX8_edge_25 : decode cX8_edge 25 = .ok (.iconst 1, 1) := by decide +kernel
theorem dX8_edge_26 : decode cX8_edge 26 = .ok (.invokestatic 47, 3) := by decide +kernel
theorem dX8_edge_29 : decode cX8_edge 29 = .ok (.ifCond .ne 7, 3) := by decide +kernel
theorem dX8_edge_32 : decode cX8_edge 32 = .ok (.sipush (-1001), 3) := by decide +kernel
theorem dX8_edge_35 : decode cX8_edge 35 = .ok (.ireturn, 1) := by decide +kernel
theorem dX8_edge_36 : decode cX8_edge 36 = .ok (.iload 4, 2) := by decide +kernel
theorem dX8_edge_38 : decode cX8_edge 38 = .ok (.ifCond .ne 19, 3) := by decide +kernel
theorem dX8_edge_41 : decode cX8_edge 41 = .ok (.aload_n 0, 1) := by decide +kernel
theorem dX8_edge_42 : decode cX8_edge 42 = .ok (.getfield 10, 3) := by decide +kernel
theorem dX8_edge_45 : decode cX8_edge 45 = .ok (.getfield 73, 3) := by decide +kernel
theorem dX8_edge_48 : decode cX8_edge 48 = .ok (.iload_n 1, 1) := by decide +kernel
theorem dX8_edge_49 : decode cX8_edge 49 = .ok (.iload_n 2, 1) := by decide +kernel
theorem dX8_edge_50 : decode cX8_edge 50 = .ok (.iload_n 3, 1) := by decide +kernel
theorem dX8_edge_51 : decode cX8_edge 51 = .ok (.invokevirtual 141, 3) := by decide +kernel
theorem dX8_edge_54 : decode cX8_edge 54 = .ok (.goto 16, 3) := by decide +kernel
theorem dX8_edge_57 : decode cX8_edge 57 = .ok (.aload_n 0, 1) := by decide +kernel
theorem dX8_edge_58 : decode cX8_edge 58 = .ok (.getfield 10, 3) := by decide +kernel
theorem dX8_edge_61 : decode cX8_edge 61 = .ok (.getfield 73, 3) := by decide +kernel
theorem dX8_edge_64 : decode cX8_edge 64 = .ok (.iload_n 1, 1) := by decide +kernel
theorem dX8_edge_65 : decode cX8_edge 65 = .ok (.iload_n 2, 1) := by decide +kernel
theorem dX8_edge_66 : decode cX8_edge 66 = .ok (.iload_n 3, 1) := by decide +kernel
theorem dX8_edge_67 : decode cX8_edge 67 = .ok (.invokevirtual 145, 3) := by decide +kernel
theorem dX8_edge_70 : decode cX8_edge 70 = .ok (.ireturn, 1) := by decide +kernel
theorem dX8_undo_0 : decode cX8_undo 0 = .ok (.aload_n 0, 1) := by decide +kernel
theorem dX8_undo_1 : decode cX8_undo 1 = .ok (.getfield 22, 3) := by decide +kernel
theorem dX8_undo_4 : decode cX8_undo 4 = .ok (.invokevirtual 148, 3) := by decide +kernel
theorem dX8_undo_7 : decode cX8_undo 7 = .ok (.ifCond .ne 7, 3) := by decide +kernel
theorem dX8_undo_10 : decode cX8_undo 10 = .ok (.sipush (-1002), 3) := by decide +kernel
theorem dX8_undo_13 : decode cX8_undo 13 = .ok (.ireturn, 1) := by decide +kernel
theorem dX8_undo_14 : decode cX8_undo 14 = .ok (.aload_n 0, 1) := by decide +kernel
theorem dX8_undo_15 : decode cX8_undo 15 = .ok (.getfield 22, 3) := by decide +kernel
theorem dX8_undo_18 : decode cX8_undo 18 = .ok (.aload_n 0, 1) := by decide +kernel
theorem dX8_undo_19 : decode cX8_undo 19 = .ok (.getfield 10, 3) := by decide +kernel
theorem dX8_undo_22 : decode cX8_undo 22 = .ok (.invokevirtual 149, 3) := by decide +kernel
theorem dX8_undo_25 : decode cX8_undo 25 = .ok (.aload_n 0, 1) := by decide +kernel
theorem dX8_undo_26 : decode cX8_undo 26 = .ok (.getfield 22, 3) := by decide +kernel
theorem dX8_undo_29 : decode cX8_undo 29 = .ok (.invokevirtual 148, 3) := by decide +kernel
theorem dX8_undo_32 : decode cX8_undo 32 = .ok (.ireturn, 1) := by decide +kernel
theorem dX8_count_0 : decode cX8_count 0 = .ok (.iload_n 1, 1) := by decide +kernel
theorem dX8_count_1 : decode cX8_count 1 = .ok (.tableswitch 192 0 11 #[63, 74, 82, 93, 104, 123, 131, 139, 148, 157, 176, 184], 63) := by decide +kernel
theorem dX8_count_64 : decode cX8_count 64 = .ok (.aload_n 0, 1) := by decide +kernel
theorem dX8_count_65 : decode cX8_count 65 = .ok (.getfield 10, 3) := by decide +kernel
theorem dX8_count_68 : decode cX8_count 68 = .ok (.getfield 73, 3) := by decide +kernel
theorem dX8_count_71 : decode cX8_count 71 = .ok (.invokevirtual 77, 3) := by decide +kernel
theorem dX8_count_74 : decode cX8_count 74 = .ok (.ireturn, 1) := by decide +kernel
theorem dX8_count_75 : decode cX8_count 75 = .ok (.aload_n 0, 1) := by decide +kernel
theorem dX8_count_76 : decode cX8_count 76 = .ok (.getfield 10, 3) := by decide +kernel
theorem dX8_count_79 : decode cX8_count 79 = .ok (.invokevirtual 51, 3) := by decide +kernel
theorem dX8_count_82 : decode cX8_count 82 = .ok (.ireturn, 1) := by decide +kernel
theorem dX8_count_83 : decode cX8_count 83 = .ok (.aload_n 0, 1) := by decide +kernel
theorem dX8_count_84 : decode cX8_count 84 = .ok (.getfield 10, 3) := by decide +kernel
theorem dX8_count_87 : decode cX8_count 87 = .ok (.getfield 59, 3) := by decide +kernel
theorem dX8_count_90 : decode cX8_count 90 = .ok (.invokevirtual 152, 3) := by decide +kernel
theorem dX8_count_93 : decode cX8_count 93 = .ok (.ireturn, 1) := by decide +kernel
theorem dX8_count_94 : decode cX8_count 94 = .ok (.aload_n 0, 1) := by decide +kernel
theorem dX8_count_95 : decode cX8_count 95 = .ok (.getfield 10, 3) := by decide +kernel
theorem dX8_count_98 : decode cX8_count 98 = .ok (.getfield 59, 3) := by decide +kernel
theorem dX8_count_101 : decode cX8_count 101 = .ok (.invokevirtual 155, 3) := by decide +kernel
theorem dX8_count_104 : decode cX8_count 104 = .ok (.ireturn, 1) := by decide +kernel
theorem dX8_count_105 : decode cX8_count 105 = .ok (.aload_n 0, 1) := by decide +kernel
theorem dX8_count_106 : decode cX8_count 106 = .ok (.getfield 29, 3) := by decide +kernel
theorem dX8_count_109 : decode cX8_count 109 = .ok (.aload_n 0, 1) := by decide +kernel
theorem dX8_count_110 : decode cX8_count 110 = .ok (.getfield 10, 3) := by decide +kernel
theorem dX8_count_113 : decode cX8_count 113 = .ok (.invokevirtual 123, 3) := by decide +kernel
theorem dX8_count_116 : decode cX8_count 116 = .ok (.aload_n 0, 1) := by decide +kernel
theorem dX8_count_117 : decode cX8_count 117 = .ok (.getfield 29, 3) := by decide +kernel
theorem dX8_count_120 : decode cX8_count 120 = .ok (.invokevirtual 158, 3) := by decide +kernel
theorem dX8_count_123 : decode cX8_count 123 = .ok (.ireturn, 1) := by decide +kernel
theorem dX8_count_124 : decode cX8_count 124 = .ok (.aload_n 0, 1) := by decide +kernel
theorem dX8_count_125 : decode cX8_count 125 = .ok (.getfield 10, 3) := by decide +kernel
theorem dX8_count_128 : decode cX8_count 128 = .ok (.invokevirtual 159, 3) := by decide +kernel
theorem dX8_count_131 : decode cX8_count 131 = .ok (.ireturn, 1) := by decide +kernel
theorem dX8_count_132 : decode cX8_count 132 = .ok (.aload_n 0, 1) := by decide +kernel
theorem dX8_count_133 : decode cX8_count 133 = .ok (.getfield 10, 3) := by decide +kernel
theorem dX8_count_136 : decode cX8_count 136 = .ok (.invokevirtual 162, 3) := by decide +kernel
theorem dX8_count_139 : decode cX8_count 139 = .ok (.ireturn, 1) := by decide +kernel
theorem dX8_count_140 : decode cX8_count 140 = .ok (.aload_n 0, 1) := by decide +kernel
theorem dX8_count_141 : decode cX8_count 141 = .ok (.getfield 10, 3) := by decide +kernel
theorem dX8_count_144 : decode cX8_count 144 = .ok (.iconst 0, 1) := by decide +kernel
theorem dX8_count_145 : decode cX8_count 145 = .ok (.invokevirtual 165, 3) := by decide +kernel
theorem dX8_count_148 : decode cX8_count 148 = .ok (.ireturn, 1) := by decide +kernel
theorem dX8_count_149 : decode cX8_count 149 = .ok (.aload_n 0, 1) := by decide +kernel
theorem dX8_count_150 : decode cX8_count 150 = .ok (.getfield 10, 3) := by decide +kernel
theorem dX8_count_153 : decode cX8_count 153 = .ok (.iconst 4, 1) := by decide +kernel
theorem dX8_count_154 : decode cX8_count 154 = .ok (.invokevirtual 165, 3) := by decide +kernel
theorem dX8_count_157 : decode cX8_count 157 = .ok (.ireturn, 1) := by decide +kernel
theorem dX8_count_158 : decode cX8_count 158 = .ok (.aload_n 0, 1) := by decide +kernel
theorem dX8_count_159 : decode cX8_count 159 = .ok (.getfield 10, 3) := by decide +kernel
theorem dX8_count_162 : decode cX8_count 162 = .ok (.getfield 59, 3) := by decide +kernel
theorem dX8_count_165 : decode cX8_count 165 = .ok (.invokevirtual 168, 3) := by decide +kernel
theorem dX8_count_168 : decode cX8_count 168 = .ok (.aload_n 0, 1) := by decide +kernel
theorem dX8_count_169 : decode cX8_count 169 = .ok (.getfield 10, 3) := by decide +kernel
theorem dX8_count_172 : decode cX8_count 172 = .ok (.invokevirtual 51, 3) := by decide +kernel
theorem dX8_count_175 : decode cX8_count 175 = .ok (.isub, 1) := by decide +kernel
theorem dX8_count_176 : decode cX8_count 176 = .ok (.ireturn, 1) := by decide +kernel
theorem dX8_count_177 : decode cX8_count 177 = .ok (.aload_n 0, 1) := by decide +kernel
theorem dX8_count_178 : decode cX8_count 178 = .ok (.getfield 22, 3) := by decide +kernel
theorem dX8_count_181 : decode cX8_count 181 = .ok (.invokevirtual 148, 3) := by decide +kernel
theorem dX8_count_184 : decode cX8_count 184 = .ok (.ireturn, 1) := by decide +kernel
theorem dX8_count_185 : decode cX8_count 185 = .ok (.aload_n 0, 1) := by decide +kernel
theorem dX8_count_186 : decode cX8_count 186 = .ok (.getfield 36, 3) := by decide +kernel
theorem dX8_count_189 : decode cX8_count 189 = .ok (.invokevirtual 171, 3) := by decide +kernel
theorem dX8_count_192 : decode cX8_count 192 = .ok (.ireturn, 1) := by decide +kernel
theorem dX8_count_193 : decode cX8_count 193 = .ok (.sipush (-1001), 3) := by decide +kernel
theorem dX8_count_196 : decode cX8_count 196 = .ok (.ireturn, 1) := by decide +kernel
theorem dX8_lay_0 : decode cX8_lay 0 = .ok (.aload_n 0, 1) := by decide +kernel
theorem dX8_lay_1 : decode cX8_lay 1 = .ok (.iload_n 1, 1) := by decide +kernel
theorem dX8_lay_2 : decode cX8_lay 2 = .ok (.invokevirtual 104, 3) := by decide +kernel
theorem dX8_lay_5 : decode cX8_lay 5 = .ok (.ifCond .eq 18, 3) := by decide +kernel
theorem dX8_lay_8 : decode cX8_lay 8 = .ok (.aload_n 0, 1) := by decide +kernel
theorem dX8_lay_9 : decode cX8_lay 9 = .ok (.iload_n 2, 1) := by decide +kernel
theorem dX8_lay_10 : decode cX8_lay 10 = .ok (.invokevirtual 174, 3) := by decide +kernel
theorem dX8_lay_13 : decode cX8_lay 13 = .ok (.ifCond .eq 10, 3) := by decide +kernel
theorem dX8_lay_16 : decode cX8_lay 16 = .ok (.iload_n 3, 1) := by decide +kernel
theorem dX8_lay_17 : decode cX8_lay 17 = .ok (.invokestatic 135, 3) := by decide +kernel
theorem dX8_lay_20 : decode cX8_lay 20 = .ok (.ifCond .ne 7, 3) := by decide +kernel
theorem dX8_lay_23 : decode cX8_lay 23 = .ok (.sipush (-1001), 3) := by decide +kernel
theorem dX8_lay_26 : decode cX8_lay 26 = .ok (.ireturn, 1) := by decide +kernel
theorem dX8_lay_27 : decode cX8_lay 27 = .ok (.aload_n 0, 1) := by decide +kernel
theorem dX8_lay_28 : decode cX8_lay 28 = .ok (.iload_n 1, 1) := by decide +kernel
theorem dX8_lay_29 : decode cX8_lay 29 = .ok (.iload_n 2, 1) := by decide +kernel
theorem dX8_lay_30 : decode cX8_lay 30 = .ok (.invokevirtual 177, 3) := by decide +kernel
theorem dX8_lay_33 : decode cX8_lay 33 = .ok (.ifCond .eq 16, 3) := by decide +kernel
theorem dX8_lay_36 : decode cX8_lay 36 = .ok (.aload_n 0, 1) := by decide +kernel
theorem dX8_lay_37 : decode cX8_lay 37 = .ok (.getfield 10, 3) := by decide +kernel
theorem dX8_lay_40 : decode cX8_lay 40 = .ok (.iload_n 1, 1) := by decide +kernel
theorem dX8_lay_41 : decode cX8_lay 41 = .ok (.iload_n 2, 1) := by decide +kernel
theorem dX8_lay_42 : decode cX8_lay 42 = .ok (.iload_n 3, 1) := by decide +kernel
theorem dX8_lay_43 : decode cX8_lay 43 = .ok (.invokevirtual 181, 3) := by decide +kernel
theorem dX8_lay_46 : decode cX8_lay 46 = .ok (.ifCond .ne 7, 3) := by decide +kernel
theorem dX8_lay_49 : decode cX8_lay 49 = .ok (.sipush (-1002), 3) := by decide +kernel
theorem dX8_lay_52 : decode cX8_lay 52 = .ok (.ireturn, 1) := by decide +kernel
theorem dX8_lay_53 : decode cX8_lay 53 = .ok (.aload_n 0, 1) := by decide +kernel
theorem dX8_lay_54 : decode cX8_lay 54 = .ok (.getfield 22, 3) := by decide +kernel
theorem dX8_lay_57 : decode cX8_lay 57 = .ok (.aload_n 0, 1) := by decide +kernel
theorem dX8_lay_58 : decode cX8_lay 58 = .ok (.getfield 10, 3) := by decide +kernel
theorem dX8_lay_61 : decode cX8_lay 61 = .ok (.invokevirtual 55, 3) := by decide +kernel
theorem dX8_lay_64 : decode cX8_lay 64 = .ok (.aload_n 0, 1) := by decide +kernel
theorem dX8_lay_65 : decode cX8_lay 65 = .ok (.getfield 10, 3) := by decide +kernel
theorem dX8_lay_68 : decode cX8_lay 68 = .ok (.getfield 59, 3) := by decide +kernel
theorem dX8_lay_71 : decode cX8_lay 71 = .ok (.iload_n 1, 1) := by decide +kernel
theorem dX8_lay_72 : decode cX8_lay 72 = .ok (.iload_n 2, 1) := by decide +kernel
theorem dX8_lay_73 : decode cX8_lay 73 = .ok (.iload_n 3, 1) := by decide +kernel
theorem dX8_lay_74 : decode cX8_lay 74 = .ok (.invokevirtual 184, 3) := by decide +kernel
theorem dX8_lay_77 : decode cX8_lay 77 = .ok (.aload_n 0, 1) := by decide +kernel
theorem dX8_lay_78 : decode cX8_lay 78 = .ok (.getfield 10, 3) := by decide +kernel
theorem dX8_lay_81 : decode cX8_lay 81 = .ok (.iload_n 1, 1) := by decide +kernel
theorem dX8_lay_82 : decode cX8_lay 82 = .ok (.iload_n 2, 1) := by decide +kernel
theorem dX8_lay_83 : decode cX8_lay 83 = .ok (.invokevirtual 187, 3) := by decide +kernel
theorem dX8_lay_86 : decode cX8_lay 86 = .ok (.ireturn, 1) := by decide +kernel
theorem dX8_force_0 : decode cX8_force 0 = .ok (.aload_n 0, 1) := by decide +kernel
theorem dX8_force_1 : decode cX8_force 1 = .ok (.iload_n 1, 1) := by decide +kernel
theorem dX8_force_2 : decode cX8_force 2 = .ok (.invokevirtual 104, 3) := by decide +kernel
theorem dX8_force_5 : decode cX8_force 5 = .ok (.ifCond .eq 18, 3) := by decide +kernel
theorem dX8_force_8 : decode cX8_force 8 = .ok (.aload_n 0, 1) := by decide +kernel
theorem dX8_force_9 : decode cX8_force 9 = .ok (.iload_n 2, 1) := by decide +kernel
theorem dX8_force_10 : decode cX8_force 10 = .ok (.invokevirtual 174, 3) := by decide +kernel
theorem dX8_force_13 : decode cX8_force 13 = .ok (.ifCond .eq 10, 3) := by decide +kernel
theorem dX8_force_16 : decode cX8_force 16 = .ok (.iload_n 3, 1) := by decide +kernel
theorem dX8_force_17 : decode cX8_force 17 = .ok (.invokestatic 135, 3) := by decide +kernel
theorem dX8_force_20 : decode cX8_force 20 = .ok (.ifCond .ne 7, 3) := by decide +kernel
theorem dX8_force_23 : decode cX8_force 23 = .ok (.sipush (-1001), 3) := by decide +kernel
theorem dX8_force_26 : decode cX8_force 26 = .ok (.ireturn, 1) := by decide +kernel
