theorem dX3_state_9 : decode cX3_state 9 = .ok (.iload_n 1, 1) := by decide +kernel
theorem dX3_state_10 : decode cX3_state 10 = .ok (.ifCond .lt 25, 3) := by decide +kernel
theorem dX3_state_13 : decode cX3_state 13 = .ok (.iload_n 2, 1) := by decide +kernel
theorem dX3_state_14 : decode cX3_state 14 = .ok (.ifCond .lt 21, 3) := by decide +kernel
theorem dX3_state_17 : decode cX3_state 17 = .ok (.iload_n 2, 1) := by decide +kernel
theorem dX3_state_18 : decode cX3_state 18 = .ok (.aload_n 0, 1) := by decide +kernel
theorem dX3_state_19 : decode cX3_state 19 = .ok (.getfield 11, 3) := by decide +kernel
theorem dX3_state_22 : decode cX3_state 22 = .ok (.arraylength, 1) := by decide +kernel
theorem dX3_state_23 : decode cX3_state 23 = .ok (.if_icmp .ge 12, 3) := by decide +kernel
theorem dX3_state_26 : decode cX3_state 26 = .ok (.aload_n 0, 1) := by decide +kernel
theorem dX3_state_27 : decode cX3_state 27 = .ok (.getfield 11, 3) := by decide +kernel
theorem dX3_state_30 : decode cX3_state 30 = .ok (.iload_n 2, 1) := by decide +kernel
theorem dX3_state_31 : decode cX3_state 31 = .ok (.aaload, 1) := by decide +kernel
theorem dX3_state_32 : decode cX3_state 32 = .ok (.goto 4, 3) := by decide +kernel
theorem dX3_state_35 : decode cX3_state 35 = .ok (.aconst_null, 1) := by decide +kernel
theorem dX3_state_36 : decode cX3_state 36 = .ok (.areturn, 1) := by decide +kernel
theorem dX4_init_0 : decode cX4_init 0 = .ok (.aload_n 0, 1) := by decide +kernel
theorem dX4_init_1 : decode cX4_init 1 = .ok (.invokespecial 3, 3) := by decide +kernel
theorem dX4_init_4 : decode cX4_init 4 = .ok (.aload_n 0, 1) := by decide +kernel
theorem dX4_init_5 : decode cX4_init 5 = .ok (.new 9, 3) := by decide +kernel
theorem dX4_init_8 : decode cX4_init 8 = .ok (.dup, 1) := by decide +kernel
theorem dX4_init_9 : decode cX4_init 9 = .ok (.bipush 12, 2) := by decide +kernel
theorem dX4_init_11 : decode cX4_init 11 = .ok (.invokespecial 11, 3) := by decide +kernel
theorem dX4_init_14 : decode cX4_init 14 = .ok (.putfield 14, 3) := by decide +kernel
theorem dX4_init_17 : decode cX4_init 17 = .ok (.aload_n 0, 1) := by decide +kernel
theorem dX4_init_18 : decode cX4_init 18 = .ok (.new 9, 3) := by decide +kernel
theorem dX4_init_21 : decode cX4_init 21 = .ok (.dup, 1) := by decide +kernel
theorem dX4_init_22 : decode cX4_init 22 = .ok (.bipush 12, 2) := by decide +kernel
theorem dX4_init_24 : decode cX4_init 24 = .ok (.invokespecial 11, 3) := by decide +kernel
theorem dX4_init_27 : decode cX4_init 27 = .ok (.putfield 20, 3) := by decide +kernel
theorem dX4_init_30 : decode cX4_init 30 = .ok (.aload_n 0, 1) := by decide +kernel
theorem dX4_init_31 : decode cX4_init 31 = .ok (.new 9, 3) := by decide +kernel
theorem dX4_init_34 : decode cX4_init 34 = .ok (.dup, 1) := by decide +kernel
theorem dX4_init_35 : decode cX4_init 35 = .ok (.bipush 36, 2) := by decide +kernel
theorem dX4_init_37 : decode cX4_init 37 = .ok (.invokespecial 11, 3) := by decide +kernel
theorem dX4_init_40 : decode cX4_init 40 = .ok (.putfield 23, 3) := by decide +kernel
theorem dX4_init_43 : decode cX4_init 43 = .ok (.aload_n 0, 1) := by decide +kernel
theorem dX4_init_44 : decode cX4_init 44 = .ok (.iconst 4, 1) := by decide +kernel
theorem dX4_init_45 : decode cX4_init 45 = .ok (.iconst 4, 1) := by decide +kernel
theorem dX4_init_46 : decode cX4_init 46 = .ok (.invokevirtual 26, 3) := by decide +kernel
theorem dX4_init_49 : decode cX4_init 49 = .ok (.return_, 1) := by decide +kernel
theorem dX4_width_0 : decode cX4_width 0 = .ok (.aload_n 0, 1) := by decide +kernel
theorem dX4_width_1 : decode cX4_width 1 = .ok (.getfield 30, 3) := by decide +kernel
theorem dX4_width_4 : decode cX4_width 4 = .ok (.ireturn, 1) := by decide +kernel
theorem dX4_height_0 : decode cX4_height 0 = .ok (.aload_n 0, 1) := by decide +kernel
theorem dX4_height_1 : decode cX4_height 1 = .ok (.getfield 34, 3) := by decide +kernel
theorem dX4_height_4 : decode cX4_height 4 = .ok (.ireturn, 1) := by decide +kernel
theorem dX4_places_0 : decode cX4_places 0 = .ok (.aload_n 0, 1) := by decide +kernel
theorem dX4_places_1 : decode cX4_places 1 = .ok (.getfield 30, 3) := by decide +kernel
theorem dX4_places_4 : decode cX4_places 4 = .ok (.aload_n 0, 1) := by decide +kernel
theorem dX4_places_5 : decode cX4_places 5 = .ok (.getfield 34, 3) := by decide +kernel
theorem dX4_places_8 : decode cX4_places 8 = .ok (.imul, 1) := by decide +kernel
theorem dX4_places_9 : decode cX4_places 9 = .ok (.ireturn, 1) := by decide +kernel
theorem dX4_lies_0 : decode cX4_lies 0 = .ok (.aload_n 0, 1) := by decide +kernel
theorem dX4_lies_1 : decode cX4_lies 1 = .ok (.getfield 14, 3) := by decide +kernel
theorem dX4_lies_4 : decode cX4_lies 4 = .ok (.iload_n 1, 1) := by decide +kernel
theorem dX4_lies_5 : decode cX4_lies 5 = .ok (.invokevirtual 37, 3) := by decide +kernel
theorem dX4_lies_8 : decode cX4_lies 8 = .ok (.iconst (-1), 1) := by decide +kernel
theorem dX4_lies_9 : decode cX4_lies 9 = .ok (.if_icmp .eq 7, 3) := by decide +kernel
theorem dX4_lies_12 : decode cX4_lies 12 = .ok (.iconst 1, 1) := by decide +kernel
theorem dX4_lies_13 : decode cX4_lies 13 = .ok (.goto 4, 3) := by decide +kernel
theorem dX4_lies_16 : decode cX4_lies 16 = .ok (.iconst 0, 1) := by decide +kernel
theorem dX4_lies_17 : decode cX4_lies 17 = .ok (.ireturn, 1) := by decide +kernel
theorem dX4_placeOf_0 : decode cX4_placeOf 0 = .ok (.aload_n 0, 1) := by decide +kernel
theorem dX4_placeOf_1 : decode cX4_placeOf 1 = .ok (.getfield 14, 3) := by decide +kernel
theorem dX4_placeOf_4 : decode cX4_placeOf 4 = .ok (.iload_n 1, 1) := by decide +kernel
theorem dX4_placeOf_5 : decode cX4_placeOf 5 = .ok (.invokevirtual 37, 3) := by decide +kernel
theorem dX4_placeOf_8 : decode cX4_placeOf 8 = .ok (.ireturn, 1) := by decide +kernel
theorem dX4_orientationOf_0 : decode cX4_orientationOf 0 = .ok (.aload_n 0, 1) := by decide +kernel
theorem dX4_orientationOf_1 : decode cX4_orientationOf 1 = .ok (.getfield 20, 3) := by decide +kernel
theorem dX4_orientationOf_4 : decode cX4_orientationOf 4 = .ok (.iload_n 1, 1) := by decide +kernel
theorem dX4_orientationOf_5 : decode cX4_orientationOf 5 = .ok (.invokevirtual 37, 3) := by decide +kernel
theorem dX4_orientationOf_8 : decode cX4_orientationOf 8 = .ok (.ireturn, 1) := by decide +kernel
theorem dX4_scrapAt_0 : decode cX4_scrapAt 0 = .ok (.aload_n 0, 1) := by decide +kernel
theorem dX4_scrapAt_1 : decode cX4_scrapAt 1 = .ok (.getfield 23, 3) := by decide +kernel
theorem dX4_scrapAt_4 : decode cX4_scrapAt 4 = .ok (.iload_n 1, 1) := by decide +kernel
theorem dX4_scrapAt_5 : decode cX4_scrapAt 5 = .ok (.invokevirtual 37, 3) := by decide +kernel
theorem dX4_scrapAt_8 : decode cX4_scrapAt 8 = .ok (.ireturn, 1) := by decide +kernel
theorem dX4_clear_0 : decode cX4_clear 0 = .ok (.aload_n 0, 1) := by decide +kernel
theorem dX4_clear_1 : decode cX4_clear 1 = .ok (.iload_n 1, 1) := by decide +kernel
theorem dX4_clear_2 : decode cX4_clear 2 = .ok (.putfield 30, 3) := by decide +kernel
theorem dX4_clear_5 : decode cX4_clear 5 = .ok (.aload_n 0, 1) := by decide +kernel
theorem dX4_clear_6 : decode cX4_clear 6 = .ok (.iload_n 2, 1) := by decide +kernel
theorem dX4_clear_7 : decode cX4_clear 7 = .ok (.putfield 34, 3) := by decide +kernel
theorem dX4_clear_10 : decode cX4_clear 10 = .ok (.aload_n 0, 1) := by decide +kernel
theorem dX4_clear_11 : decode cX4_clear 11 = .ok (.getfield 14, 3) := by decide +kernel
theorem dX4_clear_14 : decode cX4_clear 14 = .ok (.iconst (-1), 1) := by decide +kernel
theorem dX4_clear_15 : decode cX4_clear 15 = .ok (.invokevirtual 41, 3) := by decide +kernel
theorem dX4_clear_18 : decode cX4_clear 18 = .ok (.aload_n 0, 1) := by decide +kernel
theorem dX4_clear_19 : decode cX4_clear 19 = .ok (.getfield 20, 3) := by decide +kernel
theorem dX4_clear_22 : decode cX4_clear 22 = .ok (.iconst 0, 1) := by decide +kernel
theorem dX4_clear_23 : decode cX4_clear 23 = .ok (.invokevirtual 41, 3) := by decide +kernel
theorem dX4_clear_26 : decode cX4_clear 26 = .ok (.aload_n 0, 1) := by decide +kernel
theorem dX4_clear_27 : decode cX4_clear 27 = .ok (.getfield 23, 3) := by decide +kernel
theorem dX4_clear_30 : decode cX4_clear 30 = .ok (.iconst (-1), 1) := by decide +kernel
theorem dX4_clear_31 : decode cX4_clear 31 = .ok (.invokevirtual 41, 3) := by decide +kernel
theorem dX4_clear_34 : decode cX4_clear 34 = .ok (.return_, 1) := by decide +kernel
theorem dX4_put_0 : decode cX4_put 0 = .ok (.aload_n 0, 1) := by decide +kernel
theorem dX4_put_1 : decode cX4_put 1 = .ok (.getfield 14, 3) := by decide +kernel
theorem dX4_put_4 : decode cX4_put 4 = .ok (.iload_n 1, 1) := by decide +kernel
theorem dX4_put_5 : decode cX4_put 5 = .ok (.iload_n 2, 1) := by decide +kernel
theorem dX4_put_6 : decode cX4_put 6 = .ok (.invokevirtual 44, 3) := by decide +kernel
theorem dX4_put_9 : decode cX4_put 9 = .ok (.aload_n 0, 1) := by decide +kernel
theorem dX4_put_10 : decode cX4_put 10 = .ok (.getfield 20, 3) := by decide +kernel
theorem dX4_put_13 : decode cX4_put 13 = .ok (.iload_n 1, 1) := by decide +kernel
theorem dX4_put_14 : decode cX4_put 14 = .ok (.iload_n 3, 1) := by decide +kernel
theorem dX4_put_15 : decode cX4_put 15 = .ok (.invokevirtual 44, 3) := by decide +kernel
theorem dX4_put_18 : decode cX4_put 18 = .ok (.aload_n 0, 1) := by decide +kernel
theorem dX4_put_19 : decode cX4_put 19 = .ok (.getfield 23, 3) := by decide +kernel
theorem dX4_put_22 : decode cX4_put 22 = .ok (.iload_n 2, 1) := by decide +kernel
theorem dX4_put_23 : decode cX4_put 23 = .ok (.iload_n 1, 1) := by decide +kernel
theorem dX4_put_24 : decode cX4_put 24 = .ok (.invokevirtual 44, 3) := by decide +kernel
theorem dX4_put_27 : decode cX4_put 27 = .ok (.return_, 1) := by decide +kernel
theorem dX4_take_0 : decode cX4_take 0 = .ok (.aload_n 0, 1) := by decide +kernel
theorem dX4_take_1 : decode cX4_take 1 = .ok (.getfield 23, 3) := by decide +kernel
theorem dX4_take_4 : decode cX4_take 4 = .ok (.aload_n 0, 1) := by decide +kernel
theorem dX4_take_5 : decode cX4_take 5 = .ok (.getfield 14, 3) := by decide +kernel
theorem dX4_take_8 : decode cX4_take 8 = .ok (.iload_n 1, 1) := by decide +kernel
theorem dX4_take_9 : decode cX4_take 9 = .ok (.invokevirtual 37, 3) := by decide +kernel
theorem dX4_take_12 : decode cX4_take 12 = .ok (.iconst (-1), 1) := by decide +kernel
theorem dX4_take_13 : decode cX4_take 13 = .ok (.invokevirtual 44, 3) := by decide +kernel
theorem dX4_take_16 : decode cX4_take 16 = .ok (.aload_n 0, 1) := by decide +kernel
theorem dX4_take_17 : decode cX4_take 17 = .ok (.getfield 14, 3) := by decide +kernel
theorem dX4_take_20 : decode cX4_take 20 = .ok (.iload_n 1, 1) := by decide +kernel
theorem dX4_take_21 : decode cX4_take 21 = .ok (.iconst (-1), 1) := by decide +kernel
theorem dX4_take_22 : decode cX4_take 22 = .ok (.invokevirtual 44, 3) := by decide +kernel
theorem dX4_take_25 : decode cX4_take 25 = .ok (.aload_n 0, 1) := by decide +kernel
theorem dX4_take_26 : decode cX4_take 26 = .ok (.getfield 20, 3) := by decide +kernel
theorem dX4_take_29 : decode cX4_take 29 = .ok (.iload_n 1, 1) := by decide +kernel
theorem dX4_take_30 : decode cX4_take 30 = .ok (.iconst 0, 1) := by decide +kernel
theorem dX4_take_31 : decode cX4_take 31 = .ok (.invokevirtual 44, 3) := by decide +kernel
theorem dX4_take_34 : decode cX4_take 34 = .ok (.return_, 1) := by decide +kernel
theorem dX4_remove_0 : decode cX4_remove 0 = .ok (.aload_n 0, 1) := by decide +kernel
theorem dX4_remove_1 : decode cX4_remove 1 = .ok (.getfield 14, 3) := by decide +kernel
theorem dX4_remove_4 : decode cX4_remove 4 = .ok (.iload_n 1, 1) := by decide +kernel
theorem dX4_remove_5 : decode cX4_remove 5 = .ok (.iconst 1, 1) := by decide +kernel
theorem dX4_remove_6 : decode cX4_remove 6 = .ok (.invokevirtual 47, 3) := by decide +kernel
theorem dX4_remove_9 : decode cX4_remove 9 = .ok (.aload_n 0, 1) := by decide +kernel
theorem dX4_remove_10 : decode cX4_remove 10 = .ok (.getfield 14, 3) := by decide +kernel
theorem dX4_remove_13 : decode cX4_remove 13 = .ok (.bipush 11, 2) := by decide +kernel
theorem dX4_remove_15 : decode cX4_remove 15 = .ok (.iconst (-1), 1) := by decide +kernel
theorem dX4_remove_16 : decode cX4_remove 16 = .ok (.invokevirtual 44, 3) := by decide +kernel
theorem dX4_remove_19 : decode cX4_remove 19 = .ok (.aload_n 0, 1) := by decide +kernel
theorem dX4_remove_20 : decode cX4_remove 20 = .ok (.getfield 20, 3) := by decide +kernel
theorem dX4_remove_23 : decode cX4_remove 23 = .ok (.iload_n 1, 1) := by decide +kernel
theorem dX4_remove_24 : decode cX4_remove 24 = .ok (.iconst 1, 1) := by decide +kernel
theorem dX4_remove_25 : decode cX4_remove 25 = .ok (.invokevirtual 47, 3) := by decide +kernel
theorem dX4_remove_28 : decode cX4_remove 28 = .ok (.aload_n 0, 1) := by decide +kernel
theorem dX4_remove_29 : decode cX4_remove 29 = .ok (.getfield 20, 3) := by decide +kernel
theorem dX4_remove_32 : decode cX4_remove 32 = .ok (.bipush 11, 2) := by decide +kernel
theorem dX4_remove_34 : decode cX4_remove 34 = .ok (.iconst 0, 1) := by decide +kernel
theorem dX4_remove_35 : decode cX4_remove 35 = .ok (.invokevirtual 44, 3) := by decide +kernel
theorem dX4_remove_38 : decode cX4_remove 38 = .ok (.aload_n 0, 1) := by decide +kernel
theorem dX4_remove_39 : decode cX4_remove 39 = .ok (.getfield 23, 3) := by decide +kernel
theorem dX4_remove_42 : decode cX4_remove 42 = .ok (.iconst (-1), 1) := by decide +kernel
theorem dX4_remove_43 : decode cX4_remove 43 = .ok (.invokevirtual 41, 3) := by decide +kernel
theorem dX4_remove_46 : decode cX4_remove 46 = .ok (.iconst 0, 1) := by decide +kernel
theorem dX4_remove_47 : decode cX4_remove 47 = .ok (.istore_n 2, 1) := by decide +kernel
theorem dX4_remove_48 : decode cX4_remove 48 = .ok (.iload_n 2, 1) := by decide +kernel
theorem dX4_remove_49 : decode cX4_remove 49 = .ok (.bipush 12, 2) := by decide +kernel
theorem dX4_remove_51 : decode cX4_remove 51 = .ok (.if_icmp .ge 25, 3) := by decide +kernel
theorem dX4_remove_54 : decode cX4_remove 54 = .ok (.aload_n 0, 1) := by decide +kernel
theorem dX4_remove_55 : decode cX4_remove 55 = .ok (.getfield 23, 3) := by decide +kernel
theorem dX4_remove_58 : decode cX4_remove 58 = .ok (.aload_n 0, 1) := by decide +kernel
theorem dX4_remove_59 : decode cX4_remove 59 = .ok (.getfield 14, 3) := by decide +kernel
theorem dX4_remove_62 : decode cX4_remove 62 = .ok (.iload_n 2, 1) := by decide +kernel
theorem dX4_remove_63 : decode cX4_remove 63 = .ok (.invokevirtual 37, 3) := by decide +kernel
theorem dX4_remove_66 : decode cX4_remove 66 = .ok (.iload_n 2, 1) := by decide +kernel
theorem dX4_remove_67 : decode cX4_remove 67 = .ok (.invokevirtual 44, 3) := by decide +kernel
theorem dX4_remove_70 : decode cX4_remove 70 = .ok (.iinc 2 1, 3) := by decide +kernel
theorem dX4_remove_73 : decode cX4_remove 73 = .ok (.goto (-25), 3) := by decide +kernel
theorem dX4_remove_76 : decode cX4_remove 76 = .ok (.return_, 1) := by decide +kernel
theorem dX4_copy_0 : decode cX4_copy 0 = .ok (.aload_n 0, 1) := by decide +kernel
theorem dX4_copy_1 : decode cX4_copy 1 = .ok (.aload_n 1, 1) := by decide +kernel
theorem dX4_copy_2 : decode cX4_copy 2 = .ok (.getfield 30, 3) := by decide +kernel
theorem dX4_copy_5 : decode cX4_copy 5 = .ok (.putfield 30, 3) := by decide +kernel
theorem dX4_copy_8 : decode cX4_copy 8 = .ok (.aload_n 0, 1) := by decide +kernel
theorem dX4_copy_9 : decode cX4_copy 9 = .ok (.aload_n 1, 1) := by decide +kernel
theorem dX4_copy_10 : decode cX4_copy 10 = .ok (.getfield 34, 3) := by decide +kernel
theorem dX4_copy_13 : decode cX4_copy 13 = .ok (.putfield 34, 3) := by decide +kernel
theorem dX4_copy_16 : decode cX4_copy 16 = .ok (.aload_n 0, 1) := by decide +kernel
theorem dX4_copy_17 : decode cX4_copy 17 = .ok (.getfield 14, 3) := by decide +kernel
theorem dX4_copy_20 : decode cX4_copy 20 = .ok (.aload_n 1, 1) := by decide +kernel
theorem dX4_copy_21 : decode cX4_copy 21 = .ok (.getfield 14, 3) := by decide +kernel
theorem dX4_copy_24 : decode cX4_copy 24 = .ok (.invokevirtual 50, 3) := by decide +kernel
theorem dX4_copy_27 : decode cX4_copy 27 = .ok (.aload_n 0, 1) := by decide +kernel
theorem dX4_copy_28 : decode cX4_copy 28 = .ok (.getfield 20, 3) := by decide +kernel
theorem dX4_copy_31 : decode cX4_copy 31 = .ok (.aload_n 1, 1) := by decide +kernel
theorem dX4_copy_32 : decode cX4_copy 32 = .ok (.getfield 20, 3) := by decide +kernel
theorem dX4_copy_35 : decode cX4_copy 35 = .ok (.invokevirtual 50, 3) := by decide +kernel
theorem dX4_copy_38 : decode cX4_copy 38 = .ok (.aload_n 0, 1) := by decide +kernel
theorem dX4_copy_39 : decode cX4_copy 39 = .ok (.getfield 23, 3) := by decide +kernel
theorem dX4_copy_42 : decode cX4_copy 42 = .ok (.aload_n 1, 1) := by decide +kernel
theorem dX4_copy_43 : decode cX4_copy 43 = .ok (.getfield 23, 3) := by decide +kernel
theorem dX4_copy_46 : decode cX4_copy 46 = .ok (.invokevirtual 50, 3) := by decide +kernel
theorem dX4_copy_49 : decode cX4_copy 49 = .ok (.return_, 1) := by decide +kernel
theorem dX4_behind_0 : decode cX4_behind 0 = .ok (.aload_n 0, 1) := by decide +kernel
theorem dX4_behind_1 : decode cX4_behind 1 = .ok (.getfield 30, 3) := by decide +kernel
theorem dX4_behind_4 : decode cX4_behind 4 = .ok (.ifCond .le 12, 3) := by decide +kernel
theorem dX4_behind_7 : decode cX4_behind 7 = .ok (.iload_n 1, 1) := by decide +kernel
theorem dX4_behind_8 : decode cX4_behind 8 = .ok (.aload_n 0, 1) := by decide +kernel
theorem dX4_behind_9 : decode cX4_behind 9 = .ok (.getfield 30, 3) := by decide +kernel
theorem dX4_behind_12 : decode cX4_behind 12 = .ok (.irem, 1) := by decide +kernel
theorem dX4_behind_13 : decode cX4_behind 13 = .ok (.goto 4, 3) := by decide +kernel
theorem dX4_behind_16 : decode cX4_behind 16 = .ok (.iconst 0, 1) := by decide +kernel
theorem dX4_behind_17 : decode cX4_behind 17 = .ok (.istore_n 3, 1) := by decide +kernel
theorem dX4_behind_18 : decode cX4_behind 18 = .ok (.iload_n 2, 1) := by decide +kernel
theorem dX4_behind_19 : decode cX4_behind 19 = .ok (.tableswitch 86 0 2 #[25, 44, 62], 25) := by decide +kernel
theorem dX4_behind_44 : decode cX4_behind 44 = .ok (.iload_n 1, 1) := by decide +kernel
theorem dX4_behind_45 : decode cX4_behind 45 = .ok (.aload_n 0, 1) := by decide +kernel
theorem dX4_behind_46 : decode cX4_behind 46 = .ok (.getfield 30, 3) := by decide +kernel
theorem dX4_behind_49 : decode cX4_behind 49 = .ok (.if_icmp .lt 12, 3) := by decide +kernel
theorem dX4_behind_52 : decode cX4_behind 52 = .ok (.iload_n 1, 1) := by decide +kernel
theorem dX4_behind_53 : decode cX4_behind 53 = .ok (.aload_n 0, 1) := by decide +kernel
theorem dX4_behind_54 : decode cX4_behind 54 = .ok (.getfield 30, 3) := by decide +kernel
theorem dX4_behind_57 : decode cX4_behind 57 = .ok (.isub, 1) := by decide +kernel
theorem dX4_behind_58 : decode cX4_behind 58 = .ok (.goto 4, 3) := by decide +kernel
theorem dX4_behind_61 : decode cX4_behind 61 = .ok (.iconst (-1), 1) := by decide +kernel
theorem dX4_behind_62 : decode cX4_behind 62 = .ok (.ireturn, 1) := by decide +kernel
theorem dX4_behind_63 : decode cX4_behind 63 = .ok (.iload_n 3, 1) := by decide +kernel
theorem dX4_behind_64 : decode cX4_behind 64 = .ok (.iconst 1, 1) := by decide +kernel
theorem dX4_behind_65 : decode cX4_behind 65 = .ok (.iadd, 1) := by decide +kernel
theorem dX4_behind_66 : decode cX4_behind 66 = .ok (.aload_n 0, 1) := by decide +kernel
theorem dX4_behind_67 : decode cX4_behind 67 = .ok (.getfield 30, 3) := by decide +kernel
theorem dX4_behind_70 : decode cX4_behind 70 = .ok (.if_icmp .ge 9, 3) := by decide +kernel
theorem dX4_behind_73 : decode cX4_behind 73 = .ok (.iload_n 1, 1) := by decide +kernel
theorem dX4_behind_74 : decode cX4_behind 74 = .ok (.iconst 1, 1) := by decide +kernel
theorem dX4_behind_75 : decode cX4_behind 75 = .ok (.iadd, 1) := by decide +kernel
theorem dX4_behind_76 : decode cX4_behind 76 = .ok (.goto 4, 3) := by decide +kernel
theorem dX4_behind_79 : decode cX4_behind 79 = .ok (.iconst (-1), 1) := by decide +kernel
theorem dX4_behind_80 : decode cX4_behind 80 = .ok (.ireturn, 1) := by decide +kernel
theorem dX4_behind_81 : decode cX4_behind 81 = .ok (.iload_n 1, 1) := by decide +kernel
theorem dX4_behind_82 : decode cX4_behind 82 = .ok (.aload_n 0, 1) := by decide +kernel
theorem dX4_behind_83 : decode cX4_behind 83 = .ok (.getfield 30, 3) := by decide +kernel
theorem dX4_behind_86 : decode cX4_behind 86 = .ok (.iadd, 1) := by decide +kernel
theorem dX4_behind_87 : decode cX4_behind 87 = .ok (.aload_n 0, 1) := by decide +kernel
theorem dX4_behind_88 : decode cX4_behind 88 = .ok (.invokevirtual 54, 3) := by decide +kernel
theorem dX4_behind_91 : decode cX4_behind 91 = .ok (.if_icmp .ge 12, 3) := by decide +kernel
theorem dX4_behind_94 : decode cX4_behind 94 = .ok (.iload_n 1, 1) := by decide +kernel
theorem dX4_behind_95 : decode cX4_behind 95 = .ok (.aload_n 0, 1) := by decide +kernel
theorem dX4_behind_96 : decode cX4_behind 96 = .ok (.getfield 30, 3) := by decide +kernel
theorem dX4_behind_99 : decode cX4_behind 99 = .ok (.iadd, 1) := by decide +kernel
theorem dX4_behind_100 : decode cX4_behind 100 = .ok (.goto 4, 3) := by decide +kernel
theorem dX4_behind_103 : decode cX4_behind 103 = .ok (.iconst (-1), 1) := by decide +kernel
theorem dX4_behind_104 : decode cX4_behind 104 = .ok (.ireturn, 1) := by decide +kernel
theorem dX4_behind_105 : decode cX4_behind 105 = .ok (.iload_n 3, 1) := by decide +kernel
theorem dX4_behind_106 : decode cX4_behind 106 = .ok (.ifCond .le 9, 3) := by decide +kernel
theorem dX4_behind_109 : decode cX4_behind 109 = .ok (.iload_n 1, 1) := by decide +kernel
theorem dX4_behind_110 : decode cX4_behind 110 = .ok (.iconst 1, 1) := by decide +kernel
theorem dX4_behind_111 : decode cX4_behind 111 = .ok (.isub, 1) := by decide +kernel
theorem dX4_behind_112 : decode cX4_behind 112 = .ok (.goto 4, 3) := by decide +kernel
theorem dX4_behind_115 : decode cX4_behind 115 = .ok (.iconst (-1), 1) := by decide +kernel
theorem dX4_behind_116 : decode cX4_behind 116 = .ok (.ireturn, 1) := by decide +kernel
theorem dX5_init_0 : decode cX5_init 0 = .ok (.aload_n 0, 1) := by decide +kernel
theorem dX5_init_1 : decode cX5_init 1 = .ok (.invokespecial 3, 3) := by decide +kernel
theorem dX5_init_4 : decode cX5_init 4 = .ok (.aload_n 0, 1) := by decide +kernel
theorem dX5_init_5 : decode cX5_init 5 = .ok (.iload_n 1, 1) := by decide +kernel
theorem dX5_init_6 : decode cX5_init 6 = .ok (.iconst 0, 1) := by decide +kernel
theorem dX5_init_7 : decode cX5_init 7 = .ok (.invokestatic 9, 3) := by decide +kernel
theorem dX5_init_10 : decode cX5_init 10 = .ok (.newarray .int, 2) := by decide +kernel
theorem dX5_init_12 : decode cX5_init 12 = .ok (.putfield 15, 3) := by decide +kernel
theorem dX5_init_15 : decode cX5_init 15 = .ok (.return_, 1) := by decide +kernel
theorem dX5_get_0 : decode cX5_get 0 = .ok (.iload_n 1, 1) := by decide +kernel
theorem dX5_get_1 : decode cX5_get 1 = .ok (.ifCond .lt 21, 3) := by decide +kernel
theorem dX5_get_4 : decode cX5_get 4 = .ok (.iload_n 1, 1) := by decide +kernel
theorem dX5_get_5 : decode cX5_get 5 = .ok (.aload_n 0, 1) := by decide +kernel
theorem dX5_get_6 : decode cX5_get 6 = .ok (.getfield 15, 3) := by decide +kernel
theorem dX5_get_9 : decode cX5_get 9 = .ok (.arraylength, 1) := by decide +kernel
theorem dX5_get_10 : decode cX5_get 10 = .ok (.if_icmp .ge 12, 3) := by decide +kernel
theorem dX5_get_13 : decode cX5_get 13 = .ok (.aload_n 0, 1) := by decide +kernel
theorem dX5_get_14 : decode cX5_get 14 = .ok (.getfield 15, 3) := by decide +kernel
theorem dX5_get_17 : decode cX5_get 17 = .ok (.iload_n 1, 1) := by decide +kernel
theorem dX5_get_18 : decode cX5_get 18 = .ok (.iaload, 1) := by decide +kernel
theorem dX5_get_19 : decode cX5_get 19 = .ok (.goto 4, 3) := by decide +kernel
theorem dX5_get_22 : decode cX5_get 22 = .ok (.iconst (-1), 1) := by decide +kernel
theorem dX5_get_23 : decode cX5_get 23 = .ok (.ireturn, 1) := by decide +kernel
theorem dX5_set_0 : decode cX5_set 0 = .ok (.iload_n 1, 1) := by decide +kernel
theorem dX5_set_1 : decode cX5_set 1 = .ok (.ifCond .lt 19, 3) := by decide +kernel
theorem dX5_set_4 : decode cX5_set 4 = .ok (.iload_n 1, 1) := by decide +kernel
theorem dX5_set_5 : decode cX5_set 5 = .ok (.aload_n 0, 1) := by decide +kernel
theorem dX5_set_6 : decode cX5_set 6 = .ok (.getfield 15, 3) := by decide +kernel
theorem dX5_set_9 : decode cX5_set 9 = .ok (.arraylength, 1) := by decide +kernel
theorem dX5_set_10 : decode cX5_set 10 = .ok (.if_icmp .ge 10, 3) := by decide +kernel
theorem dX5_set_13 : decode cX5_set 13 = .ok (.aload_n 0, 1) := by decide +kernel
theorem dX5_set_14 : decode cX5_set 14 = .ok (.getfield 15, 3) := by decide +kernel
theorem dX5_set_17 : decode cX5_set 17 = .ok (.iload_n 1, 1) := by decide +kernel
theorem dX5_set_18 : decode cX5_set 18 = .ok (.iload_n 2, 1) := by decide +kernel
theorem dX5_set_19 : decode cX5_set 19 = .ok (.iastore, 1) := by decide +kernel
theorem dX5_set_20 : decode cX5_set 20 = .ok (.return_, 1) := by decide +kernel
theorem dX5_setAll_0 : decode cX5_setAll 0 = .ok (.aload_n 0, 1) := by decide +kernel
theorem dX5_setAll_1 : decode cX5_setAll 1 = .ok (.getfield 15, 3) := by decide +kernel
theorem dX5_setAll_4 : decode cX5_setAll 4 = .ok (.iload_n 1, 1) := by decide +kernel
theorem dX5_setAll_5 : decode cX5_setAll 5 = .ok (.invokestatic 21, 3) := by decide +kernel
theorem dX5_setAll_8 : decode cX5_setAll 8 = .ok (.return_, 1) := by decide +kernel
theorem dX5_copy_0 : decode cX5_copy 0 = .ok (.aload_n 0, 1) := by decide +kernel
theorem dX5_copy_1 : decode cX5_copy 1 = .ok (.getfield 15, 3) := by decide +kernel
theorem dX5_copy_4 : decode cX5_copy 4 = .ok (.arraylength, 1) := by decide +kernel
theorem dX5_copy_5 : decode cX5_copy 5 = .ok (.aload_n 1, 1) := by decide +kernel
theorem dX5_copy_6 : decode cX5_copy 6 = .ok (.getfield 15, 3) := by decide +kernel
theorem dX5_copy_9 : decode cX5_copy 9 = .ok (.arraylength, 1) := by decide +kernel
theorem dX5_copy_10 : decode cX5_copy 10 = .ok (.invokestatic 27, 3) := by decide +kernel
theorem dX5_copy_13 : decode cX5_copy 13 = .ok (.istore_n 2, 1) := by decide +kernel
theorem dX5_copy_14 : decode cX5_copy 14 = .ok (.aload_n 1, 1) := by decide +kernel
theorem dX5_copy_15 : decode cX5_copy 15 = .ok (.getfield 15, 3) := by decide +kernel
theorem dX5_copy_18 : decode cX5_copy 18 = .ok (.iconst 0, 1) := by decide +kernel
theorem dX5_copy_19 : decode cX5_copy 19 = .ok (.aload_n 0, 1) := by decide +kernel
theorem dX5_copy_20 : decode cX5_copy 20 = .ok (.getfield 15, 3) := by decide +kernel
theorem dX5_copy_23 : decode cX5_copy 23 = .ok (.iconst 0, 1) := by decide +kernel
theorem dX5_copy_24 : decode cX5_copy 24 = .ok (.iload_n 2, 1) := by decide +kernel
theorem dX5_copy_25 : decode cX5_copy 25 = .ok (.invokestatic 30, 3) := by decide +kernel
theorem dX5_copy_28 : decode cX5_copy 28 = .ok (.return_, 1) := by decide +kernel
theorem dX5_cut_0 : decode cX5_cut 0 = .ok (.aload_n 0, 1) := by decide +kernel
theorem dX5_cut_1 : decode cX5_cut 1 = .ok (.getfield 15, 3) := by decide +kernel
theorem dX5_cut_4 : decode cX5_cut 4 = .ok (.arraylength, 1) := by decide +kernel
theorem dX5_cut_5 : decode cX5_cut 5 = .ok (.iload_n 2, 1) := by decide +kernel
theorem dX5_cut_6 : decode cX5_cut 6 = .ok (.isub, 1) := by decide +kernel
theorem dX5_cut_7 : decode cX5_cut 7 = .ok (.iload_n 1, 1) := by decide +kernel
theorem dX5_cut_8 : decode cX5_cut 8 = .ok (.isub, 1) := by decide +kernel
theorem dX5_cut_9 : decode cX5_cut 9 = .ok (.istore_n 3, 1) := by decide +kernel
theorem dX5_cut_10 : decode cX5_cut 10 = .ok (.iload_n 1, 1) := by decide +kernel
theorem dX5_cut_11 : decode cX5_cut 11 = .ok (.ifCond .lt 27, 3) := by decide +kernel
theorem dX5_cut_14 : decode cX5_cut 14 = .ok (.iload_n 2, 1) := by decide +kernel
theorem dX5_cut_15 : decode cX5_cut 15 = .ok (.ifCond .lt 23, 3) := by decide +kernel
theorem dX5_cut_18 : decode cX5_cut 18 = .ok (.iload_n 3, 1) := by decide +kernel
theorem dX5_cut_19 : decode cX5_cut 19 = .ok (.ifCond .lt 19, 3) := by decide +kernel
theorem dX5_cut_22 : decode cX5_cut 22 = .ok (.aload_n 0, 1) := by decide +kernel
theorem dX5_cut_23 : decode cX5_cut 23 = .ok (.getfield 15, 3) := by decide +kernel
theorem dX5_cut_26 : decode cX5_cut 26 = .ok (.iload_n 1, 1) := by decide +kernel
theorem dX5_cut_27 : decode cX5_cut 27 = .ok (.iload_n 2, 1) := by decide +kernel
theorem dX5_cut_28 : decode cX5_cut 28 = .ok (.iadd, 1) := by decide +kernel
theorem dX5_cut_29 : decode cX5_cut 29 = .ok (.aload_n 0, 1) := by decide +kernel
theorem dX5_cut_30 : decode cX5_cut 30 = .ok (.getfield 15, 3) := by decide +kernel
theorem dX5_cut_33 : decode cX5_cut 33 = .ok (.iload_n 1, 1) := by decide +kernel
theorem dX5_cut_34 : decode cX5_cut 34 = .ok (.iload_n 3, 1) := by decide +kernel
theorem dX5_cut_35 : decode cX5_cut 35 = .ok (.invokestatic 30, 3) := by decide +kernel
theorem dX5_cut_38 : decode cX5_cut 38 = .ok (.return_, 1) := by decide +kernel
theorem dX6_init_0 : decode cX6_init 0 = .ok (.aload_n 0, 1) := by decide +kernel
theorem dX6_init_1 : decode cX6_init 1 = .ok (.invokespecial 3, 3) := by decide +kernel
theorem dX6_init_4 : decode cX6_init 4 = .ok (.aload_n 0, 1) := by decide +kernel
theorem dX6_init_5 : decode cX6_init 5 = .ok (.new 9, 3) := by decide +kernel
theorem dX6_init_8 : decode cX6_init 8 = .ok (.dup, 1) := by decide +kernel
theorem dX6_init_9 : decode cX6_init 9 = .ok (.bipush 12, 2) := by decide +kernel
theorem dX6_init_11 : decode cX6_init 11 = .ok (.invokespecial 11, 3) := by decide +kernel
theorem dX6_init_14 : decode cX6_init 14 = .ok (.putfield 14, 3) := by decide +kernel
theorem dX6_init_17 : decode cX6_init 17 = .ok (.aload_n 0, 1) := by decide +kernel
theorem dX6_init_18 : decode cX6_init 18 = .ok (.new 9, 3) := by decide +kernel
theorem dX6_init_21 : decode cX6_init 21 = .ok (.dup, 1) := by decide +kernel
theorem dX6_init_22 : decode cX6_init 22 = .ok (.sipush 384, 3) := by decide +kernel
theorem dX6_init_25 : decode cX6_init 25 = .ok (.invokespecial 11, 3) := by decide +kernel
theorem dX6_init_28 : decode cX6_init 28 = .ok (.putfield 20, 3) := by decide +kernel
theorem dX6_init_31 : decode cX6_init 31 = .ok (.aload_n 0, 1) := by decide +kernel
theorem dX6_init_32 : decode cX6_init 32 = .ok (.new 9, 3) := by decide +kernel
theorem dX6_init_35 : decode cX6_init 35 = .ok (.dup, 1) := by decide +kernel
theorem dX6_init_36 : decode cX6_init 36 = .ok (.sipush 384, 3) := by decide +kernel
theorem dX6_init_39 : decode cX6_init 39 = .ok (.invokespecial 11, 3) := by decide +kernel
theorem dX6_init_42 : decode cX6_init 42 = .ok (.putfield 23, 3) := by decide +kernel
theorem dX6_init_45 : decode cX6_init 45 = .ok (.return_, 1) := by decide +kernel
theorem dX6_size_0 : decode cX6_size 0 = .ok (.aload_n 0, 1) := by decide +kernel
theorem dX6_size_1 : decode cX6_size 1 = .ok (.getfield 26, 3) := by decide +kernel
theorem dX6_size_4 : decode cX6_size 4 = .ok (.ireturn, 1) := by decide +kernel
theorem dX6_kind_0 : decode cX6_kind 0 = .ok (.aload_n 0, 1) := by decide +kernel
theorem dX6_kind_1 : decode cX6_kind 1 = .ok (.getfield 14, 3) := by decide +kernel
theorem dX6_kind_4 : decode cX6_kind 4 = .ok (.iload_n 1, 1) := by decide +kernel
theorem dX6_kind_5 : decode cX6_kind 5 = .ok (.invokevirtual 30, 3) := by decide +kernel
theorem dX6_kind_8 : decode cX6_kind 8 = .ok (.ireturn, 1) := by decide +kernel
theorem dX6_profile_0 : decode cX6_profile 0 = .ok (.aload_n 0, 1) := by decide +kernel
theorem dX6_profile_1 : decode cX6_profile 1 = .ok (.getfield 20, 3) := by decide +kernel
theorem dX6_profile_4 : decode cX6_profile 4 = .ok (.iload_n 1, 1) := by decide +kernel
theorem dX6_profile_5 : decode cX6_profile 5 = .ok (.bipush 32, 2) := by decide +kernel
theorem dX6_profile_7 : decode cX6_profile 7 = .ok (.imul, 1) := by decide +kernel
theorem dX6_profile_8 : decode cX6_profile 8 = .ok (.iload_n 2, 1) := by decide +kernel
theorem dX6_profile_9 : decode cX6_profile 9 = .ok (.iconst 4, 1) := by decide +kernel
theorem dX6_profile_10 : decode cX6_profile 10 = .ok (.imul, 1) := by decide +kernel
theorem dX6_profile_11 : decode cX6_profile 11 = .ok (.iadd, 1) := by decide +kernel
theorem dX6_profile_12 : decode cX6_profile 12 = .ok (.iload_n 3, 1) := by decide +kernel
theorem dX6_profile_13 : decode cX6_profile 13 = .ok (.iadd, 1) := by decide +kernel
theorem dX6_profile_14 : decode cX6_profile 14 = .ok (.invokevirtual 30, 3) := by decide +kernel
theorem dX6_profile_17 : decode cX6_profile 17 = .ok (.ireturn, 1) := by decide +kernel
theorem dX6_line_0 : decode cX6_line 0 = .ok (.aload_n 0, 1) := by decide +kernel
theorem dX6_line_1 : decode cX6_line 1 = .ok (.getfield 23, 3) := by decide +kernel
theorem dX6_line_4 : decode cX6_line 4 = .ok (.iload_n 1, 1) := by decide +kernel
theorem dX6_line_5 : decode cX6_line 5 = .ok (.bipush 32, 2) := by decide +kernel
theorem dX6_line_7 : decode cX6_line 7 = .ok (.imul, 1) := by decide +kernel
theorem dX6_line_8 : decode cX6_line 8 = .ok (.iload_n 2, 1) := by decide +kernel
theorem dX6_line_9 : decode cX6_line 9 = .ok (.iconst 4, 1) := by decide +kernel
theorem dX6_line_10 : decode cX6_line 10 = .ok (.imul, 1) := by decide +kernel
theorem dX6_line_11 : decode cX6_line 11 = .ok (.iadd, 1) := by decide +kernel
theorem dX6_line_12 : decode cX6_line 12 = .ok (.iload_n 3, 1) := by decide +kernel
theorem dX6_line_13 : decode cX6_line 13 = .ok (.iadd, 1) := by decide +kernel
theorem dX6_line_14 : decode cX6_line 14 = .ok (.invokevirtual 30, 3) := by decide +kernel
theorem dX6_line_17 : decode cX6_line 17 = .ok (.ireturn, 1) := by decide +kernel
theorem dX6_append_0 : decode cX6_append 0 = .ok (.aload_n 0, 1) := by decide +kernel
theorem dX6_append_1 : decode cX6_append 1 = .ok (.getfield 26, 3) := by decide +kernel
theorem dX6_append_4 : decode cX6_append 4 = .ok (.bipush 12, 2) := by decide +kernel
theorem dX6_append_6 : decode cX6_append 6 = .ok (.if_icmp .lt 4, 3) := by decide +kernel
theorem dX6_append_9 : decode cX6_append 9 = .ok (.return_, 1) := by decide +kernel
theorem dX6_append_10 : decode cX6_append 10 = .ok (.aload_n 0, 1) := by decide +kernel
theorem dX6_append_11 : decode cX6_append 11 = .ok (.getfield 14, 3) := by decide +kernel
theorem dX6_append_14 : decode cX6_append 14 = .ok (.aload_n 0, 1) := by decide +kernel
theorem dX6_append_15 : decode cX6_append 15 = .ok (.getfield 26, 3) := by decide +kernel
theorem dX6_append_18 : decode cX6_append 18 = .ok (.aload_n 1, 1) := by decide +kernel
theorem dX6_append_19 : decode cX6_append 19 = .ok (.invokevirtual 34, 3) := by decide +kernel
theorem dX6_append_22 : decode cX6_append 22 = .ok (.invokevirtual 40, 3) := by decide +kernel
theorem dX6_append_25 : decode cX6_append 25 = .ok (.iconst 0, 1) := by decide +kernel
theorem dX6_append_26 : decode cX6_append 26 = .ok (.istore_n 2, 1) := by decide +kernel
theorem dX6_append_27 : decode cX6_append 27 = .ok (.iload_n 2, 1) := by decide +kernel
theorem dX6_append_28 : decode cX6_append 28 = .ok (.bipush 8, 2) := by decide +kernel
theorem dX6_append_30 : decode cX6_append 30 = .ok (.if_icmp .ge 67, 3) := by decide +kernel
theorem dX6_append_33 : decode cX6_append 33 = .ok (.iconst 0, 1) := by decide +kernel
theorem dX6_append_34 : decode cX6_append 34 = .ok (.istore_n 3, 1) := by decide +kernel
theorem dX6_append_35 : decode cX6_append 35 = .ok (.iload_n 3, 1) := by decide +kernel
theorem dX6_append_36 : decode cX6_append 36 = .ok (.iconst 4, 1) := by decide +kernel
theorem dX6_append_37 : decode cX6_append 37 = .ok (.if_icmp .ge 54, 3) := by decide +kernel
theorem dX6_append_40 : decode cX6_append 40 = .ok (.aload_n 0, 1) := by decide +kernel
theorem dX6_append_41 : decode cX6_append 41 = .ok (.getfield 26, 3) := by decide +kernel
theorem dX6_append_44 : decode cX6_append 44 = .ok (.bipush 32, 2) := by decide +kernel
theorem dX6_append_46 : decode cX6_append 46 = .ok (.imul, 1) := by decide +kernel
theorem dX6_append_47 : decode cX6_append 47 = .ok (.iload_n 2, 1) := by decide +kernel
theorem dX6_append_48 : decode cX6_append 48 = .ok (.iconst 4, 1) := by decide +kernel
theorem dX6_append_49 : decode cX6_append 49 = .ok (.imul, 1) := by decide +kernel
theorem dX6_append_50 : decode cX6_append 50 = .ok (.iadd, 1) := by decide +kernel
theorem dX6_append_51 : decode cX6_append 51 = .ok (.iload_n 3, 1) := by decide +kernel
theorem dX6_append_52 : decode cX6_append 52 = .ok (.iadd, 1) := by decide +kernel
theorem dX6_append_53 : decode cX6_append 53 = .ok (.istore 4, 2) := by decide +kernel
theorem dX6_append_55 : decode cX6_append 55 = .ok (.aload_n 0, 1) := by decide +kernel
theorem dX6_append_56 : decode cX6_append 56 = .ok (.getfield 20, 3) := by decide +kernel
theorem dX6_append_59 : decode cX6_append 59 = .ok (.iload 4, 2) := by decide +kernel
theorem dX6_append_61 : decode cX6_append 61 = .ok (.aload_n 1, 1) := by decide +kernel
theorem dX6_append_62 : decode cX6_append 62 = .ok (.iload_n 2, 1) := by decide +kernel
theorem dX6_append_63 : decode cX6_append 63 = .ok (.iload_n 3, 1) := by decide +kernel
theorem dX6_append_64 : decode cX6_append 64 = .ok (.invokevirtual 44, 3) := by decide +kernel
theorem dX6_append_67 : decode cX6_append 67 = .ok (.invokevirtual 40, 3) := by decide +kernel
theorem dX6_append_70 : decode cX6_append 70 = .ok (.aload_n 0, 1) := by decide +kernel
theorem dX6_append_71 : decode cX6_append 71 = .ok (.getfield 23, 3) := by decide +kernel
theorem dX6_append_74 : decode cX6_append 74 = .ok (.iload 4, 2) := by decide +kernel
theorem dX6_append_76 : decode cX6_append 76 = .ok (.aload_n 1, 1) := by decide +kernel
theorem dX6_append_77 : decode cX6_append 77 = .ok (.iload_n 2, 1) := by decide +kernel
theorem dX6_append_78 : decode cX6_append 78 = .ok (.iload_n 3, 1) := by decide +kernel
theorem dX6_append_79 : decode cX6_append 79 = .ok (.invokevirtual 48, 3) := by decide +kernel
theorem dX6_append_82 : decode cX6_append 82 = .ok (.invokevirtual 40, 3) := by decide +kernel
theorem dX6_append_85 : decode cX6_append 85 = .ok (.iinc 3 1, 3) := by decide +kernel
theorem dX6_append_88 : decode cX6_append 88 = .ok (.goto (-53), 3) := by decide +kernel
theorem dX6_append_91 : decode cX6_append 91 = .ok (.iinc 2 1, 3) := by decide +kernel
theorem dX6_append_94 : decode cX6_append 94 = .ok (.goto (-67), 3) := by decide +kernel
theorem dX6_append_97 : decode cX6_append 97 = .ok (.aload_n 0, 1) := by decide +kernel
theorem dX6_append_98 : decode cX6_append 98 = .ok (.dup, 1) := by decide +kernel
theorem dX6_append_99 : decode cX6_append 99 = .ok (.getfield 26, 3) := by decide +kernel
theorem dX6_append_102 : decode cX6_append 102 = .ok (.iconst 1, 1) := by decide +kernel
theorem dX6_append_103 : decode cX6_append 103 = .ok (.iadd, 1) := by decide +kernel
theorem dX6_append_104 : decode cX6_append 104 = .ok (.putfield 26, 3) := by decide +kernel
theorem dX6_append_107 : decode cX6_append 107 = .ok (.return_, 1) := by decide +kernel
theorem dX6_remove_0 : decode cX6_remove 0 = .ok (.iload_n 1, 1) := by decide +kernel
theorem dX6_remove_1 : decode cX6_remove 1 = .ok (.ifCond .lt 11, 3) := by decide +kernel
theorem dX6_remove_4 : decode cX6_remove 4 = .ok (.iload_n 1, 1) := by decide +kernel
theorem dX6_remove_5 : decode cX6_remove 5 = .ok (.aload_n 0, 1) := by decide +kernel
theorem dX6_remove_6 : decode cX6_remove 6 = .ok (.getfield 26, 3) := by decide +kernel
theorem dX6_remove_9 : decode cX6_remove 9 = .ok (.if_icmp .lt 4, 3) := by decide +kernel
theorem dX6_remove_12 : decode cX6_remove 12 = .ok (.return_, 1) := by decide +kernel
theorem dX6_remove_13 : decode cX6_remove 13 = .ok (.aload_n 0, 1) := by decide +kernel
theorem dX6_remove_14 : decode cX6_remove 14 = .ok (.getfield 14, 3) := by decide +kernel
theorem dX6_remove_17 : decode cX6_remove 17 = .ok (.iload_n 1, 1) := by decide +kernel
theorem dX6_remove_18 : decode cX6_remove 18 = .ok (.iconst 1, 1) := by decide +kernel
theorem dX6_remove_19 : decode cX6_remove 19 = .ok (.invokevirtual 51, 3) := by decide +kernel
theorem dX6_remove_22 : decode cX6_remove 22 = .ok (.aload_n 0, 1) := by decide +kernel
theorem dX6_remove_23 : decode cX6_remove 23 = .ok (.getfield 20, 3) := by decide +kernel
theorem dX6_remove_26 : decode cX6_remove 26 = .ok (.iload_n 1, 1) := by decide +kernel
theorem dX6_remove_27 : decode cX6_remove 27 = .ok (.bipush 32, 2) := by decide +kernel
theorem dX6_remove_29 : decode cX6_remove 29 = .ok (.imul, 1) := by decide +kernel
theorem dX6_remove_30 : decode cX6_remove 30 = .ok (.bipush 32, 2) := by decide +kernel
theorem dX6_remove_32 : decode cX6_remove 32 = .ok (.invokevirtual 51, 3) := by decide +kernel
theorem dX6_remove_35 : decode cX6_remove 35 = .ok (.aload_n 0, 1) := by decide +kernel
theorem dX6_remove_36 : decode cX6_remove 36 = .ok (.getfield 23, 3) := by decide +kernel
theorem dX6_remove_39 : decode cX6_remove 39 = .ok (.iload_n 1, 1) := by decide +kernel
theorem dX6_remove_40 : decode cX6_remove 40 = .ok (.bipush 32, 2) := by decide +kernel
theorem dX6_remove_42 : decode cX6_remove 42 = .ok (.imul, 1) := by decide +kernel
theorem dX6_remove_43 : decode cX6_remove 43 = .ok (.bipush 32, 2) := by decide +kernel
theorem dX6_remove_45 : decode cX6_remove 45 = .ok (.invokevirtual 51, 3) := by decide +kernel
theorem dX6_remove_48 : decode cX6_remove 48 = .ok (.aload_n 0, 1) := by decide +kernel
theorem dX6_remove_49 : decode cX6_remove 49 = .ok (.dup, 1) := by decide +kernel
theorem dX6_remove_50 : decode cX6_remove 50 = .ok (.getfield 26, 3) := by decide +kernel
theorem dX6_remove_53 : decode cX6_remove 53 = .ok (.iconst 1, 1) := by decide +kernel
theorem dX6_remove_54 : decode cX6_remove 54 = .ok (.isub, 1) := by decide +kernel
theorem dX6_remove_55 : decode cX6_remove 55 = .ok (.putfield 26, 3) := by decide +kernel
theorem dX6_remove_58 : decode cX6_remove 58 = .ok (.return_, 1) := by decide +kernel
theorem dX6_copy_0 : decode cX6_copy 0 = .ok (.aload_n 0, 1) := by decide +kernel
theorem dX6_copy_1 : decode cX6_copy 1 = .ok (.getfield 14, 3) := by decide +kernel
theorem dX6_copy_4 : decode cX6_copy 4 = .ok (.aload_n 1, 1) := by decide +kernel
theorem dX6_copy_5 : decode cX6_copy 5 = .ok (.getfield 14, 3) := by decide +kernel
theorem dX6_copy_8 : decode cX6_copy 8 = .ok (.invokevirtual 54, 3) := by decide +kernel
theorem dX6_copy_11 : decode cX6_copy 11 = .ok (.aload_n 0, 1) := by decide +kernel
theorem dX6_copy_12 : decode cX6_copy 12 = .ok (.getfield 20, 3) := by decide +kernel
theorem dX6_copy_15 : decode cX6_copy 15 = .ok (.aload_n 1, 1) := by decide +kernel
theorem dX6_copy_16 : decode cX6_copy 16 = .ok (.getfield 20, 3) := by decide +kernel
theorem dX6_copy_19 : decode cX6_copy 19 = .ok (.invokevirtual 54, 3) := by decide +kernel
theorem dX6_copy_22 : decode cX6_copy 22 = .ok (.aload_n 0, 1) := by decide +kernel
theorem dX6_copy_23 : decode cX6_copy 23 = .ok (.getfield 23, 3) := by decide +kernel
theorem dX6_copy_26 : decode cX6_copy 26 = .ok (.aload_n 1, 1) := by decide +kernel
theorem dX6_copy_27 : decode cX6_copy 27 = .ok (.getfield 23, 3) := by decide +kernel
theorem dX6_copy_30 : decode cX6_copy 30 = .ok (.invokevirtual 54, 3) := by decide +kernel
theorem dX6_copy_33 : decode cX6_copy 33 = .ok (.aload_n 0, 1) := by decide +kernel
theorem dX6_copy_34 : decode cX6_copy 34 = .ok (.aload_n 1, 1) := by decide +kernel
theorem dX6_copy_35 : decode cX6_copy 35 = .ok (.getfield 26, 3) := by decide +kernel
theorem dX6_copy_38 : decode cX6_copy 38 = .ok (.putfield 26, 3) := by decide +kernel
theorem dX6_copy_41 : decode cX6_copy 41 = .ok (.return_, 1) := by decide +kernel
theorem dX7_init_0 : decode cX7_init 0 = .ok (.aload_n 0, 1) := by decide +kernel
theorem dX7_init_1 : decode cX7_init 1 = .ok (.invokespecial 3, 3) := by decide +kernel
theorem dX7_init_4 : decode cX7_init 4 = .ok (.aload_n 0, 1) := by decide +kernel
theorem dX7_init_5 : decode cX7_init 5 = .ok (.new 9, 3) := by decide +kernel
theorem dX7_init_8 : decode cX7_init 8 = .ok (.dup, 1) := by decide +kernel
theorem dX7_init_9 : decode cX7_init 9 = .ok (.bipush 60, 2) := by decide +kernel
theorem dX7_init_11 : decode cX7_init 11 = .ok (.invokespecial 11, 3) := by decide +kernel
theorem dX7_init_14 : decode cX7_init 14 = .ok (.putfield 14, 3) := by decide +kernel
theorem dX7_init_17 : decode cX7_init 17 = .ok (.aload_n 0, 1) := by decide +kernel
theorem dX7_init_18 : decode cX7_init 18 = .ok (.new 20, 3) := by decide +kernel
theorem dX7_init_21 : decode cX7_init 21 = .ok (.dup, 1) := by decide +kernel
theorem dX7_init_22 : decode cX7_init 22 = .ok (.invokespecial 22, 3) := by decide +kernel
theorem dX7_init_25 : decode cX7_init 25 = .ok (.putfield 23, 3) := by decide +kernel
theorem dX7_init_28 : decode cX7_init 28 = .ok (.return_, 1) := by decide +kernel
theorem dX7_length_0 : decode cX7_length 0 = .ok (.aload_n 0, 1) := by decide +kernel
theorem dX7_length_1 : decode cX7_length 1 = .ok (.getfield 27, 3) := by decide +kernel
theorem dX7_length_4 : decode cX7_length 4 = .ok (.ireturn, 1) := by decide +kernel
theorem dX7_position_0 : decode cX7_position 0 = .ok (.aload_n 0, 1) := by decide +kernel
theorem dX7_position_1 : decode cX7_position 1 = .ok (.getfield 31, 3) := by decide +kernel
theorem dX7_position_4 : decode cX7_position 4 = .ok (.ireturn, 1) := by decide +kernel
theorem dX7_isSound_0 : decode cX7_isSound 0 = .ok (.aload_n 0, 1) := by decide +kernel
theorem dX7_isSound_1 : decode cX7_isSound 1 = .ok (.getfield 34, 3) := by decide +kernel
theorem dX7_isSound_4 : decode cX7_isSound 4 = .ok (.ireturn, 1) := by decide +kernel
theorem dX7_draft_0 : decode cX7_draft 0 = .ok (.aload_n 0, 1) := by decide +kernel
theorem dX7_draft_1 : decode cX7_draft 1 = .ok (.getfield 23, 3) := by decide +kernel
theorem dX7_draft_4 : decode cX7_draft 4 = .ok (.areturn, 1) := by decide +kernel
theorem dX7_append_0 : decode cX7_append 0 = .ok (.aload_n 0, 1) := by decide +kernel
theorem dX7_append_1 : decode cX7_append 1 = .ok (.getfield 27, 3) := by decide +kernel
theorem dX7_append_4 : decode cX7_append 4 = .ok (.bipush 60, 2) := by decide +kernel
theorem dX7_append_6 : decode cX7_append 6 = .ok (.if_icmp .ge 25, 3) := by decide +kernel
theorem dX7_append_9 : decode cX7_append 9 = .ok (.aload_n 0, 1) := by decide +kernel
theorem dX7_append_10 : decode cX7_append 10 = .ok (.getfield 14, 3) := by decide +kernel
theorem dX7_append_13 : decode cX7_append 13 = .ok (.aload_n 0, 1) := by decide +kernel
theorem dX7_append_14 : decode cX7_append 14 = .ok (.getfield 27, 3) := by decide +kernel
theorem dX7_append_17 : decode cX7_append 17 = .ok (.iload_n 1, 1) := by decide +kernel
theorem dX7_append_18 : decode cX7_append 18 = .ok (.invokevirtual 38, 3) := by decide +kernel
theorem dX7_append_21 : decode cX7_append 21 = .ok (.aload_n 0, 1) := by decide +kernel
theorem dX7_append_22 : decode cX7_append 22 = .ok (.dup, 1) := by decide +kernel
theorem dX7_append_23 : decode cX7_append 23 = .ok (.getfield 27, 3) := by decide +kernel
theorem dX7_append_26 : decode cX7_append 26 = .ok (.iconst 1, 1) := by decide +kernel
theorem dX7_append_27 : decode cX7_append 27 = .ok (.iadd, 1) := by decide +kernel
theorem dX7_append_28 : decode cX7_append 28 = .ok (.putfield 27, 3) := by decide +kernel
theorem dX7_append_31 : decode cX7_append 31 = .ok (.return_, 1) := by decide +kernel
theorem dX7_clear_0 : decode cX7_clear 0 = .ok (.aload_n 0, 1) := by decide +kernel
theorem dX7_clear_1 : decode cX7_clear 1 = .ok (.iconst 0, 1) := by decide +kernel
theorem dX7_clear_2 : decode cX7_clear 2 = .ok (.putfield 27, 3) := by decide +kernel
theorem dX7_clear_5 : decode cX7_clear 5 = .ok (.return_, 1) := by decide +kernel
theorem dX7_read_0 : decode cX7_read 0 = .ok (.aload_n 0, 1) := by decide +kernel
theorem dX7_read_1 : decode cX7_read 1 = .ok (.iconst 0, 1) := by decide +kernel
theorem dX7_read_2 : decode cX7_read 2 = .ok (.putfield 31, 3) := by decide +kernel
theorem dX7_read_5 : decode cX7_read 5 = .ok (.aload_n 0, 1) := by decide +kernel
theorem dX7_read_6 : decode cX7_read 6 = .ok (.iconst 1, 1) := by decide +kernel
theorem dX7_read_7 : decode cX7_read 7 = .ok (.putfield 34, 3) := by decide +kernel
theorem dX7_read_10 : decode cX7_read 10 = .ok (.iconst 0, 1) := by decide +kernel
theorem dX7_read_11 : decode cX7_read 11 = .ok (.istore_n 1, 1) := by decide +kernel
theorem dX7_read_12 : decode cX7_read 12 = .ok (.iload_n 1, 1) := by decide +kernel
theorem dX7_read_13 : decode cX7_read 13 = .ok (.iconst 4, 1) := by decide +kernel
theorem dX7_read_14 : decode cX7_read 14 = .ok (.if_icmp .ge 24, 3) := by decide +kernel
theorem dX7_read_17 : decode cX7_read 17 = .ok (.iload_n 1, 1) := by decide +kernel
theorem dX7_read_18 : decode cX7_read 18 = .ok (.ifCond .le 9, 3) := by decide +kernel
theorem dX7_read_21 : decode cX7_read 21 = .ok (.aload_n 0, 1) := by decide +kernel
theorem dX7_read_22 : decode cX7_read 22 = .ok (.bipush 44, 2) := by decide +kernel
theorem dX7_read_24 : decode cX7_read 24 = .ok (.invokevirtual 42, 3) := by decide +kernel
theorem dX7_read_27 : decode cX7_read 27 = .ok (.aload_n 0, 1) := by decide +kernel
theorem dX7_read_28 : decode cX7_read 28 = .ok (.iload_n 1, 1) := by decide +kernel
theorem dX7_read_29 : decode cX7_read 29 = .ok (.invokevirtual 46, 3) := by decide +kernel
theorem dX7_read_32 : decode cX7_read 32 = .ok (.iinc 1 1, 3) := by decide +kernel
theorem dX7_read_35 : decode cX7_read 35 = .ok (.goto (-23), 3) := by decide +kernel
theorem dX7_read_38 : decode cX7_read 38 = .ok (.aload_n 0, 1) := by decide +kernel
theorem dX7_read_39 : decode cX7_read 39 = .ok (.bipush 59, 2) := by decide +kernel
theorem dX7_read_41 : decode cX7_read 41 = .ok (.invokevirtual 42, 3) := by decide +kernel
theorem dX7_read_44 : decode cX7_read 44 = .ok (.aload_n 0, 1) := by decide +kernel
theorem dX7_read_45 : decode cX7_read 45 = .ok (.getfield 23, 3) := by decide +kernel
theorem dX7_read_48 : decode cX7_read 48 = .ok (.aload_n 0, 1) := by decide +kernel
theorem dX7_read_49 : decode cX7_read 49 = .ok (.iconst 1, 1) := by decide +kernel
theorem dX7_read_50 : decode cX7_read 50 = .ok (.invokevirtual 49, 3) := by decide +kernel
theorem dX7_read_53 : decode cX7_read 53 = .ok (.invokevirtual 53, 3) := by decide +kernel
theorem dX7_read_56 : decode cX7_read 56 = .ok (.aload_n 0, 1) := by decide +kernel
theorem dX7_read_57 : decode cX7_read 57 = .ok (.aload_n 0, 1) := by decide +kernel
theorem dX7_read_58 : decode cX7_read 58 = .ok (.getfield 34, 3) := by decide +kernel
theorem dX7_read_61 : decode cX7_read 61 = .ok (.ifCond .eq 18, 3) := by decide +kernel
theorem dX7_read_64 : decode cX7_read 64 = .ok (.aload_n 0, 1) := by decide +kernel
theorem dX7_read_65 : decode cX7_read 65 = .ok (.getfield 31, 3) := by decide +kernel
theorem dX7_read_68 : decode cX7_read 68 = .ok (.aload_n 0, 1) := by decide +kernel
theorem dX7_read_69 : decode cX7_read 69 = .ok (.getfield 27, 3) := by decide +kernel
theorem dX7_read_72 : decode cX7_read 72 = .ok (.if_icmp .ne 7, 3) := by decide +kernel
theorem dX7_read_75 : decode cX7_read 75 = .ok (.iconst 1, 1) := by decide +kernel
theorem dX7_read_76 : decode cX7_read 76 = .ok (.goto 4, 3) := by decide +kernel
theorem dX7_read_79 : decode cX7_read 79 = .ok (.iconst 0, 1) := by decide +kernel
theorem dX7_read_80 : decode cX7_read 80 = .ok (.putfield 34, 3) := by decide +kernel
theorem dX7_read_83 : decode cX7_read 83 = .ok (.return_, 1) := by decide +kernel
theorem dX7_takeEdge_0 : decode cX7_takeEdge 0 = .ok (.aload_n 0, 1) := by decide +kernel
theorem dX7_takeEdge_1 : decode cX7_takeEdge 1 = .ok (.invokevirtual 56, 3) := by decide +kernel
theorem dX7_takeEdge_4 : decode cX7_takeEdge 4 = .ok (.bipush 45, 2) := by decide +kernel
theorem dX7_takeEdge_6 : decode cX7_takeEdge 6 = .ok (.if_icmp .ne 7, 3) := by decide +kernel
theorem dX7_takeEdge_9 : decode cX7_takeEdge 9 = .ok (.iconst 1, 1) := by decide +kernel
theorem dX7_takeEdge_10 : decode cX7_takeEdge 10 = .ok (.goto 4, 3) := by decide +kernel
theorem dX7_takeEdge_13 : decode cX7_takeEdge 13 = .ok (.iconst 0, 1) := by decide +kernel
theorem dX7_takeEdge_14 : decode cX7_takeEdge 14 = .ok (.istore_n 2, 1) := by decide +kernel
theorem dX7_takeEdge_15 : decode cX7_takeEdge 15 = .ok (.iconst (-1), 1) := by decide +kernel
theorem dX7_takeEdge_16 : decode cX7_takeEdge 16 = .ok (.istore_n 3, 1) := by decide +kernel
theorem dX7_takeEdge_17 : decode cX7_takeEdge 17 = .ok (.iload_n 2, 1) := by decide +kernel
theorem dX7_takeEdge_18 : decode cX7_takeEdge 18 = .ok (.ifCond .eq 12, 3) := by decide +kernel
theorem dX7_takeEdge_21 : decode cX7_takeEdge 21 = .ok (.aload_n 0, 1) := by decide +kernel
theorem dX7_takeEdge_22 : decode cX7_takeEdge 22 = .ok (.bipush 45, 2) := by decide +kernel
theorem dX7_takeEdge_24 : decode cX7_takeEdge 24 = .ok (.invokevirtual 42, 3) := by decide +kernel
theorem dX7_takeEdge_27 : decode cX7_takeEdge 27 = .ok (.goto 34, 3) := by decide +kernel
theorem dX7_takeEdge_30 : decode cX7_takeEdge 30 = .ok (.aload_n 0, 1) := by decide +kernel
theorem dX7_takeEdge_31 : decode cX7_takeEdge 31 = .ok (.bipush 9, 2) := by decide +kernel
theorem dX7_takeEdge_33 : decode cX7_takeEdge 33 = .ok (.invokevirtual 49, 3) := by decide +kernel
theorem dX7_takeEdge_36 : decode cX7_takeEdge 36 = .ok (.bipush 100, 2) := by decide +kernel
theorem dX7_takeEdge_38 : decode cX7_takeEdge 38 = .ok (.imul, 1) := by decide +kernel
theorem dX7_takeEdge_39 : decode cX7_takeEdge 39 = .ok (.istore_n 3, 1) := by decide +kernel
theorem dX7_takeEdge_40 : decode cX7_takeEdge 40 = .ok (.iload_n 3, 1) := by decide +kernel
theorem dX7_takeEdge_41 : decode cX7_takeEdge 41 = .ok (.aload_n 0, 1) := by decide +kernel
theorem dX7_takeEdge_42 : decode cX7_takeEdge 42 = .ok (.bipush 9, 2) := by decide +kernel
theorem dX7_takeEdge_44 : decode cX7_takeEdge 44 = .ok (.invokevirtual 49, 3) := by decide +kernel
theorem dX7_takeEdge_47 : decode cX7_takeEdge 47 = .ok (.bipush 10, 2) := by decide +kernel
theorem dX7_takeEdge_49 : decode cX7_takeEdge 49 = .ok (.imul, 1) := by decide +kernel
theorem dX7_takeEdge_50 : decode cX7_takeEdge 50 = .ok (.iadd, 1) := by decide +kernel
theorem dX7_takeEdge_51 : decode cX7_takeEdge 51 = .ok (.istore_n 3, 1) := by decide +kernel
theorem dX7_takeEdge_52 : decode cX7_takeEdge 52 = .ok (.iload_n 3, 1) := by decide +kernel
theorem dX7_takeEdge_53 : decode cX7_takeEdge 53 = .ok (.aload_n 0, 1) := by decide +kernel
theorem dX7_takeEdge_54 : decode cX7_takeEdge 54 = .ok (.bipush 9, 2) := by decide +kernel
theorem dX7_takeEdge_56 : decode cX7_takeEdge 56 = .ok (.invokevirtual 49, 3) := by decide +kernel
theorem dX7_takeEdge_59 : decode cX7_takeEdge 59 = .ok (.iadd, 1) := by decide +kernel
theorem dX7_takeEdge_60 : decode cX7_takeEdge 60 = .ok (.istore_n 3, 1) := by decide +kernel
theorem dX7_takeEdge_61 : decode cX7_takeEdge 61 = .ok (.aload_n 0, 1) := by decide +kernel
theorem dX7_takeEdge_62 : decode cX7_takeEdge 62 = .ok (.bipush 47, 2) := by decide +kernel
theorem dX7_takeEdge_64 : decode cX7_takeEdge 64 = .ok (.invokevirtual 42, 3) := by decide +kernel
theorem dX7_takeEdge_67 : decode cX7_takeEdge 67 = .ok (.aload_n 0, 1) := by decide +kernel
theorem dX7_takeEdge_68 : decode cX7_takeEdge 68 = .ok (.getfield 23, 3) := by decide +kernel
theorem dX7_takeEdge_71 : decode cX7_takeEdge 71 = .ok (.iload_n 1, 1) := by decide +kernel
theorem dX7_takeEdge_72 : decode cX7_takeEdge 72 = .ok (.iload_n 3, 1) := by decide +kernel
theorem dX7_takeEdge_73 : decode cX7_takeEdge 73 = .ok (.aload_n 0, 1) := by decide +kernel
theorem dX7_takeEdge_74 : decode cX7_takeEdge 74 = .ok (.iload_n 2, 1) := by decide +kernel
theorem dX7_takeEdge_75 : decode cX7_takeEdge 75 = .ok (.ifCond .eq 7, 3) := by decide +kernel
theorem dX7_takeEdge_78 : decode cX7_takeEdge 78 = .ok (.iconst 0, 1) := by decide +kernel
theorem dX7_takeEdge_79 : decode cX7_takeEdge 79 = .ok (.goto 5, 3) := by decide +kernel
theorem dX7_takeEdge_82 : decode cX7_takeEdge 82 = .ok (.bipush 9, 2) := by decide +kernel
theorem dX7_takeEdge_84 : decode cX7_takeEdge 84 = .ok (.invokevirtual 49, 3) := by decide +kernel
theorem dX7_takeEdge_87 : decode cX7_takeEdge 87 = .ok (.invokevirtual 60, 3) := by decide +kernel
theorem dX7_takeEdge_90 : decode cX7_takeEdge 90 = .ok (.return_, 1) := by decide +kernel
theorem dX7_takeSign_0 : decode cX7_takeSign 0 = .ok (.aload_n 0, 1) := by decide +kernel
theorem dX7_takeSign_1 : decode cX7_takeSign 1 = .ok (.aload_n 0, 1) := by decide +kernel
theorem dX7_takeSign_2 : decode cX7_takeSign 2 = .ok (.getfield 34, 3) := by decide +kernel
theorem dX7_takeSign_5 : decode cX7_takeSign 5 = .ok (.ifCond .eq 15, 3) := by decide +kernel
theorem dX7_takeSign_8 : decode cX7_takeSign 8 = .ok (.aload_n 0, 1) := by decide +kernel
theorem dX7_takeSign_9 : decode cX7_takeSign 9 = .ok (.invokevirtual 56, 3) := by decide +kernel
theorem dX7_takeSign_12 : decode cX7_takeSign 12 = .ok (.iload_n 1, 1) := by decide +kernel
theorem dX7_takeSign_13 : decode cX7_takeSign 13 = .ok (.if_icmp .ne 7, 3) := by decide +kernel
theorem dX7_takeSign_16 : decode cX7_takeSign 16 = .ok (.iconst 1, 1) := by decide +kernel
theorem dX7_takeSign_17 : decode cX7_takeSign 17 = .ok (.goto 4, 3) := by decide +kernel
theorem dX7_takeSign_20 : decode cX7_takeSign 20 = .ok (.iconst 0, 1) := by decide +kernel
theorem dX7_takeSign_21 : decode cX7_takeSign 21 = .ok (.putfield 34, 3) := by decide +kernel
theorem dX7_takeSign_24 : decode cX7_takeSign 24 = .ok (.aload_n 0, 1) := by decide +kernel
theorem dX7_takeSign_25 : decode cX7_takeSign 25 = .ok (.getfield 34, 3) := by decide +kernel
theorem dX7_takeSign_28 : decode cX7_takeSign 28 = .ok (.ifCond .eq 13, 3) := by decide +kernel
theorem dX7_takeSign_31 : decode cX7_takeSign 31 = .ok (.aload_n 0, 1) := by decide +kernel
theorem dX7_takeSign_32 : decode cX7_takeSign 32 = .ok (.dup, 1) := by decide +kernel
theorem dX7_takeSign_33 : decode cX7_takeSign 33 = .ok (.getfield 31, 3) := by decide +kernel
theorem dX7_takeSign_36 : decode cX7_takeSign 36 = .ok (.iconst 1, 1) := by decide +kernel
theorem dX7_takeSign_37 : decode cX7_takeSign 37 = .ok (.iadd, 1) := by decide +kernel
theorem dX7_takeSign_38 : decode cX7_takeSign 38 = .ok (.putfield 31, 3) := by decide +kernel
theorem dX7_takeSign_41 : decode cX7_takeSign 41 = .ok (.return_, 1) := by decide +kernel
theorem dX7_takeDigit_0 : decode cX7_takeDigit 0 = .ok (.aload_n 0, 1) := by decide +kernel
theorem dX7_takeDigit_1 : decode cX7_takeDigit 1 = .ok (.invokevirtual 56, 3) := by decide +kernel
theorem dX7_takeDigit_4 : decode cX7_takeDigit 4 = .ok (.bipush 48, 2) := by decide +kernel
theorem dX7_takeDigit_6 : decode cX7_takeDigit 6 = .ok (.isub, 1) := by decide +kernel
theorem dX7_takeDigit_7 : decode cX7_takeDigit 7 = .ok (.istore_n 2, 1) := by decide +kernel
theorem dX7_takeDigit_8 : decode cX7_takeDigit 8 = .ok (.aload_n 0, 1) := by decide +kernel
theorem dX7_takeDigit_9 : decode cX7_takeDigit 9 = .ok (.aload_n 0, 1) := by decide +kernel
theorem dX7_takeDigit_10 : decode cX7_takeDigit 10 = .ok (.getfield 34, 3) := by decide +kernel
theorem dX7_takeDigit_13 : decode cX7_takeDigit 13 = .ok (.ifCond .eq 16, 3) := by decide +kernel
theorem dX7_takeDigit_16 : decode cX7_takeDigit 16 = .ok (.iload_n 2, 1) := by decide +kernel
theorem dX7_takeDigit_17 : decode cX7_takeDigit 17 = .ok (.ifCond .lt 12, 3) := by decide +kernel
theorem dX7_takeDigit_20 : decode cX7_takeDigit 20 = .ok (.iload_n 2, 1) := by decide +kernel
theorem dX7_takeDigit_21 : decode cX7_takeDigit 21 = .ok (.iload_n 1, 1) := by decide +kernel
theorem dX7_takeDigit_22 : decode cX7_takeDigit 22 = .ok (.if_icmp .gt 7, 3) := by decide +kernel
theorem dX7_takeDigit_25 : decode cX7_takeDigit 25 = .ok (.iconst 1, 1) := by decide +kernel
theorem dX7_takeDigit_26 : decode cX7_takeDigit 26 = .ok (.goto 4, 3) := by decide +kernel
theorem dX7_takeDigit_29 : decode cX7_takeDigit 29 = .ok (.iconst 0, 1) := by decide +kernel
theorem dX7_takeDigit_30 : decode cX7_takeDigit 30 = .ok (.putfield 34, 3) := by decide +kernel
theorem dX7_takeDigit_33 : decode cX7_takeDigit 33 = .ok (.aload_n 0, 1) := by decide +kernel
theorem dX7_takeDigit_34 : decode cX7_takeDigit 34 = .ok (.getfield 34, 3) := by decide +kernel
theorem dX7_takeDigit_37 : decode cX7_takeDigit 37 = .ok (.ifCond .ne 5, 3) := by decide +kernel
theorem dX7_takeDigit_40 : decode cX7_takeDigit 40 = .ok (.iconst 0, 1) := by decide +kernel
theorem dX7_takeDigit_41 : decode cX7_takeDigit 41 = .ok (.ireturn, 1) := by decide +kernel
theorem dX7_takeDigit_42 : decode cX7_takeDigit 42 = .ok (.aload_n 0, 1) := by decide +kernel
theorem dX7_takeDigit_43 : decode cX7_takeDigit 43 = .ok (.dup, 1) := by decide +kernel
theorem dX7_takeDigit_44 : decode cX7_takeDigit 44 = .ok (.getfield 31, 3) := by decide +kernel
theorem dX7_takeDigit_47 : decode cX7_takeDigit 47 = .ok (.iconst 1, 1) := by decide +kernel
theorem dX7_takeDigit_48 : decode cX7_takeDigit 48 = .ok (.iadd, 1) := by decide +kernel
theorem dX7_takeDigit_49 : decode cX7_takeDigit 49 = .ok (.putfield 31, 3) := by decide +kernel
theorem dX7_takeDigit_52 : decode cX7_takeDigit 52 = .ok (.iload_n 2, 1) := by decide +kernel
theorem dX7_takeDigit_53 : decode cX7_takeDigit 53 = .ok (.ireturn, 1) := by decide +kernel
theorem dX7_next_0 : decode cX7_next 0 = .ok (.aload_n 0, 1) := by decide +kernel
theorem dX7_next_1 : decode cX7_next 1 = .ok (.getfield 31, 3) := by decide +kernel
theorem dX7_next_4 : decode cX7_next 4 = .ok (.aload_n 0, 1) := by decide +kernel
theorem dX7_next_5 : decode cX7_next 5 = .ok (.getfield 27, 3) := by decide +kernel
theorem dX7_next_8 : decode cX7_next 8 = .ok (.if_icmp .ge 17, 3) := by decide +kernel
theorem dX7_next_11 : decode cX7_next 11 = .ok (.aload_n 0, 1) := by decide +kernel
theorem dX7_next_12 : decode cX7_next 12 = .ok (.getfield 14, 3) := by decide +kernel
theorem dX7_next_15 : decode cX7_next 15 = .ok (.aload_n 0, 1) := by decide +kernel
theorem dX7_next_16 : decode cX7_next 16 = .ok (.getfield 31, 3) := by decide +kernel
theorem dX7_next_19 : decode cX7_next 19 = .ok (.invokevirtual 64, 3) := by decide +kernel
theorem dX7_next_22 : decode cX7_next 22 = .ok (.goto 4, 3) := by decide +kernel
theorem dX7_next_25 : decode cX7_next 25 = .ok (.iconst (-1), 1) := by decide +kernel
theorem dX7_next_26 : decode cX7_next 26 = .ok (.ireturn, 1) := by decide +kernel
theorem dX8_init_0 : decode cX8_init 0 = .ok (.aload_n 0, 1) := by decide +kernel
theorem dX8_init_1 : decode cX8_init 1 = .ok (.invokespecial 1, 3) := by decide +kernel
theorem dX8_init_4 : decode cX8_init 4 = .ok (.aload_n 0, 1) := by decide +kernel
theorem dX8_init_5 : decode cX8_init 5 = .ok (.new 7, 3) := by decide +kernel
theorem dX8_init_8 : decode cX8_init 8 = .ok (.dup, 1) := by decide +kernel
theorem dX8_init_9 : decode cX8_init 9 = .ok (.invokespecial 9, 3) := by decide +kernel
theorem dX8_init_12 : decode cX8_init 12 = .ok (.putfield 10, 3) := by decide +kernel
theorem dX8_init_15 : decode cX8_init 15 = .ok (.aload_n 0, 1) := by decide +kernel
theorem dX8_init_16 : decode cX8_init 16 = .ok (.new 7, 3) := by decide +kernel
theorem dX8_init_19 : decode cX8_init 19 = .ok (.dup, 1) := by decide +kernel
theorem dX8_init_20 : decode cX8_init 20 = .ok (.invokespecial 9, 3) := by decide +kernel
theorem dX8_init_23 : decode cX8_init 23 = .ok (.putfield 16, 3) := by decide +kernel
theorem dX8_init_26 : decode cX8_init 26 = .ok (.aload_n 0, 1) := by decide +kernel
theorem dX8_init_27 : decode cX8_init 27 = .ok (.new 19, 3) := by decide +kernel
theorem dX8_init_30 : decode cX8_init 30 = .ok (.dup, 1) := by decide +kernel
theorem dX8_init_31 : decode cX8_init 31 = .ok (.invokespecial 21, 3) := by decide +kernel
theorem dX8_init_34 : decode cX8_init 34 = .ok (.putfield 22, 3) := by decide +kernel
theorem dX8_init_37 : decode cX8_init 37 = .ok (.aload_n 0, 1) := by decide +kernel
theorem dX8_init_38 : decode cX8_init 38 = .ok (.new 26, 3) := by decide +kernel
theorem dX8_init_41 : decode cX8_init 41 = .ok (.dup, 1) := by decide +kernel
theorem dX8_init_42 : decode cX8_init 42 = .ok (.invokespecial 28, 3) := by decide +kernel
theorem dX8_init_45 : decode cX8_init 45 = .ok (.putfield 29, 3) := by decide +kernel
theorem dX8_init_48 : decode cX8_init 48 = .ok (.aload_n 0, 1) := by decide +kernel
theorem dX8_init_49 : decode cX8_init 49 = .ok (.new 33, 3) := by decide +kernel
theorem dX8_init_52 : decode cX8_init 52 = .ok (.dup, 1) := by decide +kernel
theorem dX8_init_53 : decode cX8_init 53 = .ok (.invokespecial 35, 3) := by decide +kernel
theorem dX8_init_56 : decode cX8_init 56 = .ok (.putfield 36, 3) := by decide +kernel
theorem dX8_init_59 : decode cX8_init 59 = .ok (.aload_n 0, 1) := by decide +kernel
theorem dX8_init_60 : decode cX8_init 60 = .ok (.new 40, 3) := by decide +kernel
theorem dX8_init_63 : decode cX8_init 63 = .ok (.dup, 1) := by decide +kernel
theorem dX8_init_64 : decode cX8_init 64 = .ok (.invokespecial 42, 3) := by decide +kernel
theorem dX8_init_67 : decode cX8_init 67 = .ok (.putfield 43, 3) := by decide +kernel
theorem dX8_init_70 : decode cX8_init 70 = .ok (.return_, 1) := by decide +kernel
theorem dX8_reset_0 : decode cX8_reset 0 = .ok (.iload_n 1, 1) := by decide +kernel
theorem dX8_reset_1 : decode cX8_reset 1 = .ok (.iconst 1, 1) := by decide +kernel
theorem dX8_reset_2 : decode cX8_reset 2 = .ok (.bipush 6, 2) := by decide +kernel
theorem dX8_reset_4 : decode cX8_reset 4 = .ok (.invokestatic 47, 3) := by decide +kernel
theorem dX8_reset_7 : decode cX8_reset 7 = .ok (.ifCond .eq 13, 3) := by decide +kernel
theorem dX8_reset_10 : decode cX8_reset 10 = .ok (.iload_n 2, 1) := by decide +kernel
theorem dX8_reset_11 : decode cX8_reset 11 = .ok (.iconst 1, 1) := by decide +kernel
theorem dX8_reset_12 : decode cX8_reset 12 = .ok (.bipush 6, 2) := by decide +kernel
theorem dX8_reset_14 : decode cX8_reset 14 = .ok (.invokestatic 47, 3) := by decide +kernel
theorem dX8_reset_17 : decode cX8_reset 17 = .ok (.ifCond .ne 7, 3) := by decide +kernel
theorem dX8_reset_20 : decode cX8_reset 20 = .ok (.sipush (-1001), 3) := by decide +kernel
theorem dX8_reset_23 : decode cX8_reset 23 = .ok (.ireturn, 1) := by decide +kernel
theorem dX8_reset_24 : decode cX8_reset 24 = .ok (.aload_n 0, 1) := by decide +kernel
theorem dX8_reset_25 : decode cX8_reset 25 = .ok (.getfield 10, 3) := by decide +kernel
theorem dX8_reset_28 : decode cX8_reset 28 = .ok (.invokevirtual 51, 3) := by decide +kernel
theorem dX8_reset_31 : decode cX8_reset 31 = .ok (.istore_n 3, 1) := by decide +kernel
theorem dX8_reset_32 : decode cX8_reset 32 = .ok (.aload_n 0, 1) := by decide +kernel
theorem dX8_reset_33 : decode cX8_reset 33 = .ok (.getfield 22, 3) := by decide +kernel
theorem dX8_reset_36 : decode cX8_reset 36 = .ok (.aload_n 0, 1) := by decide +kernel
theorem dX8_reset_37 : decode cX8_reset 37 = .ok (.getfield 10, 3) := by decide +kernel
theorem dX8_reset_40 : decode cX8_reset 40 = .ok (.invokevirtual 55, 3) := by decide +kernel
theorem dX8_reset_43 : decode cX8_reset 43 = .ok (.aload_n 0, 1) := by decide +kernel
theorem dX8_reset_44 : decode cX8_reset 44 = .ok (.getfield 10, 3) := by decide +kernel
theorem dX8_reset_47 : decode cX8_reset 47 = .ok (.getfield 59, 3) := by decide +kernel
theorem dX8_reset_50 : decode cX8_reset 50 = .ok (.iload_n 1, 1) := by decide +kernel
theorem dX8_reset_51 : decode cX8_reset 51 = .ok (.iload_n 2, 1) := by decide +kernel
theorem dX8_reset_52 : decode cX8_reset 52 = .ok (.invokevirtual 63, 3) := by decide +kernel
theorem dX8_reset_55 : decode cX8_reset 55 = .ok (.iload_n 3, 1) := by decide +kernel
theorem dX8_reset_56 : decode cX8_reset 56 = .ok (.ireturn, 1) := by decide +kernel
theorem dX8_addScrap_0 : decode cX8_addScrap 0 = .ok (.iload_n 1, 1) := by decide +kernel
theorem dX8_addScrap_1 : decode cX8_addScrap 1 = .ok (.invokestatic 69, 3) := by decide +kernel
theorem dX8_addScrap_4 : decode cX8_addScrap 4 = .ok (.ifCond .eq 35, 3) := by decide +kernel
theorem dX8_addScrap_7 : decode cX8_addScrap 7 = .ok (.iload_n 2, 1) := by decide +kernel
theorem dX8_addScrap_8 : decode cX8_addScrap 8 = .ok (.invokestatic 69, 3) := by decide +kernel
theorem dX8_addScrap_11 : decode cX8_addScrap 11 = .ok (.ifCond .eq 28, 3) := by decide +kernel
theorem dX8_addScrap_14 : decode cX8_addScrap 14 = .ok (.iload_n 3, 1) := by decide +kernel
theorem dX8_addScrap_15 : decode cX8_addScrap 15 = .ok (.invokestatic 69, 3) := by decide +kernel
theorem dX8_addScrap_18 : decode cX8_addScrap 18 = .ok (.ifCond .eq 21, 3) := by decide +kernel
theorem dX8_addScrap_21 : decode cX8_addScrap 21 = .ok (.iload 4, 2) := by decide +kernel
theorem dX8_addScrap_23 : decode cX8_addScrap 23 = .ok (.invokestatic 69, 3) := by decide +kernel
theorem dX8_addScrap_26 : decode cX8_addScrap 26 = .ok (.ifCond .eq 13, 3) := by decide +kernel
theorem dX8_addScrap_29 : decode cX8_addScrap 29 = .ok (.iload 5, 2) := by decide +kernel
theorem dX8_addScrap_31 : decode cX8_addScrap 31 = .ok (.iconst 0, 1) := by decide +kernel
theorem dX8_addScrap_32 : decode cX8_addScrap 32 = .ok (.iconst 1, 1) := by decide +kernel
theorem dX8_addScrap_33 : decode cX8_addScrap 33 = .ok (.invokestatic 47, 3) := by decide +kernel
theorem dX8_addScrap_36 : decode cX8_addScrap 36 = .ok (.ifCond .ne 7, 3) := by decide +kernel
theorem dX8_addScrap_39 : decode cX8_addScrap 39 = .ok (.sipush (-1001), 3) := by decide +kernel
theorem dX8_addScrap_42 : decode cX8_addScrap 42 = .ok (.ireturn, 1) := by decide +kernel
theorem dX8_addScrap_43 : decode cX8_addScrap 43 = .ok (.aload_n 0, 1) := by decide +kernel
theorem dX8_addScrap_44 : decode cX8_addScrap 44 = .ok (.getfield 10, 3) := by decide +kernel
theorem dX8_addScrap_47 : decode cX8_addScrap 47 = .ok (.getfield 73, 3) := by decide +kernel
theorem dX8_addScrap_50 : decode cX8_addScrap 50 = .ok (.invokevirtual 77, 3) := by decide +kernel
theorem dX8_addScrap_53 : decode cX8_addScrap 53 = .ok (.bipush 12, 2) := by decide +kernel
theorem dX8_addScrap_55 : decode cX8_addScrap 55 = .ok (.if_icmp .lt 7, 3) := by decide +kernel
theorem dX8_addScrap_58 : decode cX8_addScrap 58 = .ok (.sipush (-1003), 3) := by decide +kernel
theorem dX8_addScrap_61 : decode cX8_addScrap 61 = .ok (.ireturn, 1) := by decide +kernel
theorem dX8_addScrap_62 : decode cX8_addScrap 62 = .ok (.aload_n 0, 1) := by decide +kernel
theorem dX8_addScrap_63 : decode cX8_addScrap 63 = .ok (.getfield 43, 3) := by decide +kernel
theorem dX8_addScrap_66 : decode cX8_addScrap 66 = .ok (.iconst 0, 1) := by decide +kernel
theorem dX8_addScrap_67 : decode cX8_addScrap 67 = .ok (.iload_n 1, 1) := by decide +kernel
theorem dX8_addScrap_68 : decode cX8_addScrap 68 = .ok (.iconst 0, 1) := by decide +kernel
theorem dX8_addScrap_69 : decode cX8_addScrap 69 = .ok (.invokevirtual 82, 3) := by decide +kernel
theorem dX8_addScrap_72 : decode cX8_addScrap 72 = .ok (.aload_n 0, 1) := by decide +kernel
theorem dX8_addScrap_73 : decode cX8_addScrap 73 = .ok (.getfield 43, 3) := by decide +kernel
theorem dX8_addScrap_76 : decode cX8_addScrap 76 = .ok (.iconst 1, 1) := by decide +kernel
theorem dX8_addScrap_77 : decode cX8_addScrap 77 = .ok (.iload_n 2, 1) := by decide +kernel
theorem dX8_addScrap_78 : decode cX8_addScrap 78 = .ok (.iconst 0, 1) := by decide +kernel
theorem dX8_addScrap_79 : decode cX8_addScrap 79 = .ok (.invokevirtual 82, 3) := by decide +kernel
theorem dX8_addScrap_82 : decode cX8_addScrap 82 = .ok (.aload_n 0, 1) := by decide +kernel
theorem dX8_addScrap_83 : decode cX8_addScrap 83 = .ok (.getfield 43, 3) := by decide +kernel
theorem dX8_addScrap_86 : decode cX8_addScrap 86 = .ok (.iconst 2, 1) := by decide +kernel
theorem dX8_addScrap_87 : decode cX8_addScrap 87 = .ok (.iload_n 3, 1) := by decide +kernel
theorem dX8_addScrap_88 : decode cX8_addScrap 88 = .ok (.iconst 0, 1) := by decide +kernel
theorem dX8_addScrap_89 : decode cX8_addScrap 89 = .ok (.invokevirtual 82, 3) := by decide +kernel
theorem dX8_addScrap_92 : decode cX8_addScrap 92 = .ok (.aload_n 0, 1) := by decide +kernel
theorem dX8_addScrap_93 : decode cX8_addScrap 93 = .ok (.getfield 43, 3) := by decide +kernel
theorem dX8_addScrap_96 : decode cX8_addScrap 96 = .ok (.iconst 3, 1) := by decide +kernel
theorem dX8_addScrap_97 : decode cX8_addScrap 97 = .ok (.iload 4, 2) := by decide +kernel
theorem dX8_addScrap_99 : decode cX8_addScrap 99 = .ok (.iconst 0, 1) := by decide +kernel
theorem dX8_addScrap_100 : decode cX8_addScrap 100 = .ok (.invokevirtual 82, 3) := by decide +kernel
theorem dX8_addScrap_103 : decode cX8_addScrap 103 = .ok (.aload_n 0, 1) := by decide +kernel
theorem dX8_addScrap_104 : decode cX8_addScrap 104 = .ok (.getfield 43, 3) := by decide +kernel
theorem dX8_addScrap_107 : decode cX8_addScrap 107 = .ok (.iload 5, 2) := by decide +kernel
theorem dX8_addScrap_109 : decode cX8_addScrap 109 = .ok (.invokevirtual 86, 3) := by decide +kernel
theorem dX8_addScrap_112 : decode cX8_addScrap 112 = .ok (.aload_n 0, 1) := by decide +kernel
theorem dX8_addScrap_113 : decode cX8_addScrap 113 = .ok (.aload_n 0, 1) := by decide +kernel
theorem dX8_addScrap_114 : decode cX8_addScrap 114 = .ok (.getfield 43, 3) := by decide +kernel
theorem dX8_addScrap_117 : decode cX8_addScrap 117 = .ok (.invokevirtual 90, 3) := by decide +kernel
theorem dX8_addScrap_120 : decode cX8_addScrap 120 = .ok (.ireturn, 1) := by decide +kernel
theorem dX8_add_0 : decode cX8_add 0 = .ok (.aload_n 0, 1) := by decide +kernel
theorem dX8_add_1 : decode cX8_add 1 = .ok (.getfield 36, 3) := by decide +kernel
theorem dX8_add_4 : decode cX8_add 4 = .ok (.invokevirtual 94, 3) := by decide +kernel
theorem dX8_add_7 : decode cX8_add 7 = .ok (.aload_n 0, 1) := by decide +kernel
theorem dX8_add_8 : decode cX8_add 8 = .ok (.getfield 36, 3) := by decide +kernel
theorem dX8_add_11 : decode cX8_add 11 = .ok (.invokevirtual 97, 3) := by decide +kernel
theorem dX8_add_14 : decode cX8_add 14 = .ok (.ifCond .ne 7, 3) := by decide +kernel
theorem dX8_add_17 : decode cX8_add 17 = .ok (.sipush (-1002), 3) := by decide +kernel
theorem dX8_add_20 : decode cX8_add 20 = .ok (.ireturn, 1) := by decide +kernel
theorem dX8_add_21 : decode cX8_add 21 = .ok (.aload_n 0, 1) := by decide +kernel
theorem dX8_add_22 : decode cX8_add 22 = .ok (.getfield 10, 3) := by decide +kernel
theorem dX8_add_25 : decode cX8_add 25 = .ok (.getfield 73, 3) := by decide +kernel
theorem dX8_add_28 : decode cX8_add 28 = .ok (.invokevirtual 77, 3) := by decide +kernel
theorem dX8_add_31 : decode cX8_add 31 = .ok (.bipush 12, 2) := by decide +kernel
theorem dX8_add_33 : decode cX8_add 33 = .ok (.if_icmp .lt 7, 3) := by decide +kernel
theorem dX8_add_36 : decode cX8_add 36 = .ok (.sipush (-1003), 3) := by decide +kernel
theorem dX8_add_39 : decode cX8_add 39 = .ok (.ireturn, 1) := by decide +kernel
theorem dX8_add_40 : decode cX8_add 40 = .ok (.aload_n 0, 1) := by decide +kernel
theorem dX8_add_41 : decode cX8_add 41 = .ok (.aload_n 0, 1) := by decide +kernel
theorem dX8_add_42 : decode cX8_add 42 = .ok (.getfield 36, 3) := by decide +kernel
theorem dX8_add_45 : decode cX8_add 45 = .ok (.invokevirtual 101, 3) := by decide +kernel
theorem dX8_add_48 : decode cX8_add 48 = .ok (.invokevirtual 90, 3) := by decide +kernel
theorem dX8_add_51 : decode cX8_add 51 = .ok (.ireturn, 1) := by decide +kernel
theorem dX8_removeScrap_0 : decode cX8_removeScrap 0 = .ok (.aload_n 0, 1) := by decide +kernel
theorem dX8_removeScrap_1 : decode cX8_removeScrap 1 = .ok (.iload_n 1, 1) := by decide +kernel
theorem dX8_removeScrap_2 : decode cX8_removeScrap 2 = .ok (.invokevirtual 104, 3) := by decide +kernel
theorem dX8_removeScrap_5 : decode cX8_removeScrap 5 = .ok (.ifCond .ne 7, 3) := by decide +kernel
theorem dX8_removeScrap_8 : decode cX8_removeScrap 8 = .ok (.sipush (-1001), 3) := by decide +kernel
theorem dX8_removeScrap_11 : decode cX8_removeScrap 11 = .ok (.ireturn, 1) := by decide +kernel
theorem dX8_removeScrap_12 : decode cX8_removeScrap 12 = .ok (.aload_n 0, 1) := by decide +kernel
theorem dX8_removeScrap_13 : decode cX8_removeScrap 13 = .ok (.getfield 22, 3) := by decide +kernel
theorem dX8_removeScrap_16 : decode cX8_removeScrap 16 = .ok (.aload_n 0, 1) := by decide +kernel
theorem dX8_removeScrap_17 : decode cX8_removeScrap 17 = .ok (.getfield 10, 3) := by decide +kernel
theorem dX8_removeScrap_20 : decode cX8_removeScrap 20 = .ok (.invokevirtual 55, 3) := by decide +kernel
theorem dX8_removeScrap_23 : decode cX8_removeScrap 23 = .ok (.aload_n 0, 1) := by decide +kernel
theorem dX8_removeScrap_24 : decode cX8_removeScrap 24 = .ok (.getfield 10, 3) := by decide +kernel
theorem dX8_removeScrap_27 : decode cX8_removeScrap 27 = .ok (.iload_n 1, 1) := by decide +kernel
theorem dX8_removeScrap_28 : decode cX8_removeScrap 28 = .ok (.invokevirtual 107, 3) := by decide +kernel
theorem dX8_removeScrap_31 : decode cX8_removeScrap 31 = .ok (.aload_n 0, 1) := by decide +kernel
theorem dX8_removeScrap_32 : decode cX8_removeScrap 32 = .ok (.getfield 10, 3) := by decide +kernel
theorem dX8_removeScrap_35 : decode cX8_removeScrap 35 = .ok (.getfield 73, 3) := by decide +kernel
theorem dX8_removeScrap_38 : decode cX8_removeScrap 38 = .ok (.invokevirtual 77, 3) := by decide +kernel
theorem dX8_removeScrap_41 : decode cX8_removeScrap 41 = .ok (.ireturn, 1) := by decide +kernel
theorem dX8_scrap_0 : decode cX8_scrap 0 = .ok (.aload_n 0, 1) := by decide +kernel
theorem dX8_scrap_1 : decode cX8_scrap 1 = .ok (.iload_n 1, 1) := by decide +kernel
theorem dX8_scrap_2 : decode cX8_scrap 2 = .ok (.invokevirtual 104, 3) := by decide +kernel
theorem dX8_scrap_5 : decode cX8_scrap 5 = .ok (.ifCond .eq 12, 3) := by decide +kernel
theorem dX8_scrap_8 : decode cX8_scrap 8 = .ok (.iload_n 2, 1) := by decide +kernel
theorem dX8_scrap_9 : decode cX8_scrap 9 = .ok (.iconst 0, 1) := by decide +kernel
theorem dX8_scrap_10 : decode cX8_scrap 10 = .ok (.iconst 5, 1) := by decide +kernel
theorem dX8_scrap_11 : decode cX8_scrap 11 = .ok (.invokestatic 47, 3) := by decide +kernel
theorem dX8_scrap_14 : decode cX8_scrap 14 = .ok (.ifCond .ne 7, 3) := by decide +kernel
theorem dX8_scrap_17 : decode cX8_scrap 17 = .ok (.sipush (-1001), 3) := by decide +kernel
theorem dX8_scrap_20 : decode cX8_scrap 20 = .ok (.ireturn, 1) := by decide +kernel
theorem dX8_scrap_21 : decode cX8_scrap 21 = .ok (.iload_n 2, 1) := by decide +kernel
theorem dX8_scrap_22 : decode cX8_scrap 22 = .ok (.iconst 1, 1) := by decide +kernel
theorem dX8_scrap_23 : decode cX8_scrap 23 = .ok (.if_icmp .le 21, 3) := by decide +kernel
theorem dX8_scrap_26 : decode cX8_scrap 26 = .ok (.aload_n 0, 1) := by decide +kernel
theorem dX8_scrap_27 : decode cX8_scrap 27 = .ok (.getfield 10, 3) := by decide +kernel
theorem dX8_scrap_30 : decode cX8_scrap 30 = .ok (.getfield 59, 3) := by decide +kernel
theorem dX8_scrap_33 : decode cX8_scrap 33 = .ok (.iload_n 1, 1) := by decide +kernel
theorem dX8_scrap_34 : decode cX8_scrap 34 = .ok (.invokevirtual 110, 3) := by decide +kernel
theorem dX8_scrap_37 : decode cX8_scrap 37 = .ok (.ifCond .ne 7, 3) := by decide +kernel
theorem dX8_scrap_40 : decode cX8_scrap 40 = .ok (.sipush (-1004), 3) := by decide +kernel
theorem dX8_scrap_43 : decode cX8_scrap 43 = .ok (.ireturn, 1) := by decide +kernel
