theorem dX0_of_0 : decode cX0_of 0 = .ok (.iload_n 0, 1) := by decide +kernel
theorem dX0_of_1 : decode cX0_of 1 = .ok (.iload_n 1, 1) := by decide +kernel
theorem dX0_of_2 : decode cX0_of 2 = .ok (.bipush 7, 2) := by decide +kernel
theorem dX0_of_4 : decode cX0_of 4 = .ok (.ishl, 1) := by decide +kernel
theorem dX0_of_5 : decode cX0_of 5 = .ok (.ior, 1) := by decide +kernel
theorem dX0_of_6 : decode cX0_of 6 = .ok (.iload_n 2, 1) := by decide +kernel
theorem dX0_of_7 : decode cX0_of 7 = .ok (.bipush 14, 2) := by decide +kernel
theorem dX0_of_9 : decode cX0_of 9 = .ok (.ishl, 1) := by decide +kernel
theorem dX0_of_10 : decode cX0_of 10 = .ok (.ior, 1) := by decide +kernel
theorem dX0_of_11 : decode cX0_of 11 = .ok (.iload_n 3, 1) := by decide +kernel
theorem dX0_of_12 : decode cX0_of 12 = .ok (.bipush 21, 2) := by decide +kernel
theorem dX0_of_14 : decode cX0_of 14 = .ok (.ishl, 1) := by decide +kernel
theorem dX0_of_15 : decode cX0_of 15 = .ok (.ior, 1) := by decide +kernel
theorem dX0_of_16 : decode cX0_of 16 = .ok (.ireturn, 1) := by decide +kernel
theorem dX0_side_0 : decode cX0_side 0 = .ok (.iload_n 0, 1) := by decide +kernel
theorem dX0_side_1 : decode cX0_side 1 = .ok (.bipush 7, 2) := by decide +kernel
theorem dX0_side_3 : decode cX0_side 3 = .ok (.iload_n 1, 1) := by decide +kernel
theorem dX0_side_4 : decode cX0_side 4 = .ok (.imul, 1) := by decide +kernel
theorem dX0_side_5 : decode cX0_side 5 = .ok (.ishr, 1) := by decide +kernel
theorem dX0_side_6 : decode cX0_side 6 = .ok (.bipush 127, 2) := by decide +kernel
theorem dX0_side_8 : decode cX0_side 8 = .ok (.iand, 1) := by decide +kernel
theorem dX0_side_9 : decode cX0_side 9 = .ok (.ireturn, 1) := by decide +kernel
theorem dX0_area_0 : decode cX0_area 0 = .ok (.iload_n 0, 1) := by decide +kernel
theorem dX0_area_1 : decode cX0_area 1 = .ok (.iconst (-1), 1) := by decide +kernel
theorem dX0_area_2 : decode cX0_area 2 = .ok (.if_icmp .ne 7, 3) := by decide +kernel
theorem dX0_area_5 : decode cX0_area 5 = .ok (.iconst 0, 1) := by decide +kernel
theorem dX0_area_6 : decode cX0_area 6 = .ok (.goto 26, 3) := by decide +kernel
theorem dX0_area_9 : decode cX0_area 9 = .ok (.iload_n 0, 1) := by decide +kernel
theorem dX0_area_10 : decode cX0_area 10 = .ok (.iconst 2, 1) := by decide +kernel
theorem dX0_area_11 : decode cX0_area 11 = .ok (.invokestatic 9, 3) := by decide +kernel
theorem dX0_area_14 : decode cX0_area 14 = .ok (.iload_n 0, 1) := by decide +kernel
theorem dX0_area_15 : decode cX0_area 15 = .ok (.iconst 0, 1) := by decide +kernel
theorem dX0_area_16 : decode cX0_area 16 = .ok (.invokestatic 9, 3) := by decide +kernel
theorem dX0_area_19 : decode cX0_area 19 = .ok (.isub, 1) := by decide +kernel
theorem dX0_area_20 : decode cX0_area 20 = .ok (.iload_n 0, 1) := by decide +kernel
theorem dX0_area_21 : decode cX0_area 21 = .ok (.iconst 3, 1) := by decide +kernel
theorem dX0_area_22 : decode cX0_area 22 = .ok (.invokestatic 9, 3) := by decide +kernel
theorem dX0_area_25 : decode cX0_area 25 = .ok (.iload_n 0, 1) := by decide +kernel
theorem dX0_area_26 : decode cX0_area 26 = .ok (.iconst 1, 1) := by decide +kernel
theorem dX0_area_27 : decode cX0_area 27 = .ok (.invokestatic 9, 3) := by decide +kernel
theorem dX0_area_30 : decode cX0_area 30 = .ok (.isub, 1) := by decide +kernel
theorem dX0_area_31 : decode cX0_area 31 = .ok (.imul, 1) := by decide +kernel
theorem dX0_area_32 : decode cX0_area 32 = .ok (.ireturn, 1) := by decide +kernel
theorem dX0_around_0 : decode cX0_around 0 = .ok (.iload_n 0, 1) := by decide +kernel
theorem dX0_around_1 : decode cX0_around 1 = .ok (.iconst (-1), 1) := by decide +kernel
theorem dX0_around_2 : decode cX0_around 2 = .ok (.if_icmp .eq 8, 3) := by decide +kernel
theorem dX0_around_5 : decode cX0_around 5 = .ok (.iload_n 1, 1) := by decide +kernel
theorem dX0_around_6 : decode cX0_around 6 = .ok (.iconst (-1), 1) := by decide +kernel
theorem dX0_around_7 : decode cX0_around 7 = .ok (.if_icmp .ne 14, 3) := by decide +kernel
theorem dX0_around_10 : decode cX0_around 10 = .ok (.iload_n 0, 1) := by decide +kernel
theorem dX0_around_11 : decode cX0_around 11 = .ok (.iconst (-1), 1) := by decide +kernel
theorem dX0_around_12 : decode cX0_around 12 = .ok (.if_icmp .ne 7, 3) := by decide +kernel
theorem dX0_around_15 : decode cX0_around 15 = .ok (.iload_n 1, 1) := by decide +kernel
theorem dX0_around_16 : decode cX0_around 16 = .ok (.goto 4, 3) := by decide +kernel
theorem dX0_around_19 : decode cX0_around 19 = .ok (.iload_n 0, 1) := by decide +kernel
theorem dX0_around_20 : decode cX0_around 20 = .ok (.ireturn, 1) := by decide +kernel
theorem dX0_around_21 : decode cX0_around 21 = .ok (.iload_n 0, 1) := by decide +kernel
theorem dX0_around_22 : decode cX0_around 22 = .ok (.iconst 0, 1) := by decide +kernel
theorem dX0_around_23 : decode cX0_around 23 = .ok (.invokestatic 9, 3) := by decide +kernel
theorem dX0_around_26 : decode cX0_around 26 = .ok (.iload_n 1, 1) := by decide +kernel
theorem dX0_around_27 : decode cX0_around 27 = .ok (.iconst 0, 1) := by decide +kernel
theorem dX0_around_28 : decode cX0_around 28 = .ok (.invokestatic 9, 3) := by decide +kernel
theorem dX0_around_31 : decode cX0_around 31 = .ok (.invokestatic 15, 3) := by decide +kernel
theorem dX0_around_34 : decode cX0_around 34 = .ok (.iload_n 0, 1) := by decide +kernel
theorem dX0_around_35 : decode cX0_around 35 = .ok (.iconst 1, 1) := by decide +kernel
theorem dX0_around_36 : decode cX0_around 36 = .ok (.invokestatic 9, 3) := by decide +kernel
theorem dX0_around_39 : decode cX0_around 39 = .ok (.iload_n 1, 1) := by decide +kernel
theorem dX0_around_40 : decode cX0_around 40 = .ok (.iconst 1, 1) := by decide +kernel
theorem dX0_around_41 : decode cX0_around 41 = .ok (.invokestatic 9, 3) := by decide +kernel
theorem dX0_around_44 : decode cX0_around 44 = .ok (.invokestatic 15, 3) := by decide +kernel
theorem dX0_around_47 : decode cX0_around 47 = .ok (.iload_n 0, 1) := by decide +kernel
theorem dX0_around_48 : decode cX0_around 48 = .ok (.iconst 2, 1) := by decide +kernel
theorem dX0_around_49 : decode cX0_around 49 = .ok (.invokestatic 9, 3) := by decide +kernel
theorem dX0_around_52 : decode cX0_around 52 = .ok (.iload_n 1, 1) := by decide +kernel
theorem dX0_around_53 : decode cX0_around 53 = .ok (.iconst 2, 1) := by decide +kernel
theorem dX0_around_54 : decode cX0_around 54 = .ok (.invokestatic 9, 3) := by decide +kernel
theorem dX0_around_57 : decode cX0_around 57 = .ok (.invokestatic 20, 3) := by decide +kernel
theorem dX0_around_60 : decode cX0_around 60 = .ok (.iload_n 0, 1) := by decide +kernel
theorem dX0_around_61 : decode cX0_around 61 = .ok (.iconst 3, 1) := by decide +kernel
theorem dX0_around_62 : decode cX0_around 62 = .ok (.invokestatic 9, 3) := by decide +kernel
theorem dX0_around_65 : decode cX0_around 65 = .ok (.iload_n 1, 1) := by decide +kernel
theorem dX0_around_66 : decode cX0_around 66 = .ok (.iconst 3, 1) := by decide +kernel
theorem dX0_around_67 : decode cX0_around 67 = .ok (.invokestatic 9, 3) := by decide +kernel
theorem dX0_around_70 : decode cX0_around 70 = .ok (.invokestatic 20, 3) := by decide +kernel
theorem dX0_around_73 : decode cX0_around 73 = .ok (.invokestatic 23, 3) := by decide +kernel
theorem dX0_around_76 : decode cX0_around 76 = .ok (.ireturn, 1) := by decide +kernel
theorem dX0_touch_0 : decode cX0_touch 0 = .ok (.iload_n 0, 1) := by decide +kernel
theorem dX0_touch_1 : decode cX0_touch 1 = .ok (.iconst (-1), 1) := by decide +kernel
theorem dX0_touch_2 : decode cX0_touch 2 = .ok (.if_icmp .eq 64, 3) := by decide +kernel
theorem dX0_touch_5 : decode cX0_touch 5 = .ok (.iload_n 1, 1) := by decide +kernel
theorem dX0_touch_6 : decode cX0_touch 6 = .ok (.iconst (-1), 1) := by decide +kernel
theorem dX0_touch_7 : decode cX0_touch 7 = .ok (.if_icmp .eq 59, 3) := by decide +kernel
theorem dX0_touch_10 : decode cX0_touch 10 = .ok (.iload_n 0, 1) := by decide +kernel
theorem dX0_touch_11 : decode cX0_touch 11 = .ok (.iconst 0, 1) := by decide +kernel
theorem dX0_touch_12 : decode cX0_touch 12 = .ok (.invokestatic 9, 3) := by decide +kernel
theorem dX0_touch_15 : decode cX0_touch 15 = .ok (.iload_n 1, 1) := by decide +kernel
theorem dX0_touch_16 : decode cX0_touch 16 = .ok (.iconst 2, 1) := by decide +kernel
theorem dX0_touch_17 : decode cX0_touch 17 = .ok (.invokestatic 9, 3) := by decide +kernel
theorem dX0_touch_20 : decode cX0_touch 20 = .ok (.if_icmp .gt 46, 3) := by decide +kernel
theorem dX0_touch_23 : decode cX0_touch 23 = .ok (.iload_n 1, 1) := by decide +kernel
theorem dX0_touch_24 : decode cX0_touch 24 = .ok (.iconst 0, 1) := by decide +kernel
theorem dX0_touch_25 : decode cX0_touch 25 = .ok (.invokestatic 9, 3) := by decide +kernel
theorem dX0_touch_28 : decode cX0_touch 28 = .ok (.iload_n 0, 1) := by decide +kernel
theorem dX0_touch_29 : decode cX0_touch 29 = .ok (.iconst 2, 1) := by decide +kernel
theorem dX0_touch_30 : decode cX0_touch 30 = .ok (.invokestatic 9, 3) := by decide +kernel
theorem dX0_touch_33 : decode cX0_touch 33 = .ok (.if_icmp .gt 33, 3) := by decide +kernel
theorem dX0_touch_36 : decode cX0_touch 36 = .ok (.iload_n 0, 1) := by decide +kernel
theorem dX0_touch_37 : decode cX0_touch 37 = .ok (.iconst 1, 1) := by decide +kernel
theorem dX0_touch_38 : decode cX0_touch 38 = .ok (.invokestatic 9, 3) := by decide +kernel
theorem dX0_touch_41 : decode cX0_touch 41 = .ok (.iload_n 1, 1) := by decide +kernel
theorem dX0_touch_42 : decode cX0_touch 42 = .ok (.iconst 3, 1) := by decide +kernel
theorem dX0_touch_43 : decode cX0_touch 43 = .ok (.invokestatic 9, 3) := by decide +kernel
theorem dX0_touch_46 : decode cX0_touch 46 = .ok (.if_icmp .gt 20, 3) := by decide +kernel
theorem dX0_touch_49 : decode cX0_touch 49 = .ok (.iload_n 1, 1) := by decide +kernel
theorem dX0_touch_50 : decode cX0_touch 50 = .ok (.iconst 1, 1) := by decide +kernel
theorem dX0_touch_51 : decode cX0_touch 51 = .ok (.invokestatic 9, 3) := by decide +kernel
theorem dX0_touch_54 : decode cX0_touch 54 = .ok (.iload_n 0, 1) := by decide +kernel
theorem dX0_touch_55 : decode cX0_touch 55 = .ok (.iconst 3, 1) := by decide +kernel
theorem dX0_touch_56 : decode cX0_touch 56 = .ok (.invokestatic 9, 3) := by decide +kernel
theorem dX0_touch_59 : decode cX0_touch 59 = .ok (.if_icmp .gt 7, 3) := by decide +kernel
theorem dX0_touch_62 : decode cX0_touch 62 = .ok (.iconst 1, 1) := by decide +kernel
theorem dX0_touch_63 : decode cX0_touch 63 = .ok (.goto 4, 3) := by decide +kernel
theorem dX0_touch_66 : decode cX0_touch 66 = .ok (.iconst 0, 1) := by decide +kernel
theorem dX0_touch_67 : decode cX0_touch 67 = .ok (.ireturn, 1) := by decide +kernel
theorem dX0_common_0 : decode cX0_common 0 = .ok (.iload_n 0, 1) := by decide +kernel
theorem dX0_common_1 : decode cX0_common 1 = .ok (.iload_n 1, 1) := by decide +kernel
theorem dX0_common_2 : decode cX0_common 2 = .ok (.invokestatic 27, 3) := by decide +kernel
theorem dX0_common_5 : decode cX0_common 5 = .ok (.ifCond .ne 5, 3) := by decide +kernel
theorem dX0_common_8 : decode cX0_common 8 = .ok (.iconst 0, 1) := by decide +kernel
theorem dX0_common_9 : decode cX0_common 9 = .ok (.ireturn, 1) := by decide +kernel
theorem dX0_common_10 : decode cX0_common 10 = .ok (.iload_n 0, 1) := by decide +kernel
theorem dX0_common_11 : decode cX0_common 11 = .ok (.iconst 2, 1) := by decide +kernel
theorem dX0_common_12 : decode cX0_common 12 = .ok (.invokestatic 9, 3) := by decide +kernel
theorem dX0_common_15 : decode cX0_common 15 = .ok (.iload_n 1, 1) := by decide +kernel
theorem dX0_common_16 : decode cX0_common 16 = .ok (.iconst 2, 1) := by decide +kernel
theorem dX0_common_17 : decode cX0_common 17 = .ok (.invokestatic 9, 3) := by decide +kernel
theorem dX0_common_20 : decode cX0_common 20 = .ok (.invokestatic 15, 3) := by decide +kernel
theorem dX0_common_23 : decode cX0_common 23 = .ok (.iload_n 0, 1) := by decide +kernel
theorem dX0_common_24 : decode cX0_common 24 = .ok (.iconst 0, 1) := by decide +kernel
theorem dX0_common_25 : decode cX0_common 25 = .ok (.invokestatic 9, 3) := by decide +kernel
theorem dX0_common_28 : decode cX0_common 28 = .ok (.iload_n 1, 1) := by decide +kernel
theorem dX0_common_29 : decode cX0_common 29 = .ok (.iconst 0, 1) := by decide +kernel
theorem dX0_common_30 : decode cX0_common 30 = .ok (.invokestatic 9, 3) := by decide +kernel
theorem dX0_common_33 : decode cX0_common 33 = .ok (.invokestatic 20, 3) := by decide +kernel
theorem dX0_common_36 : decode cX0_common 36 = .ok (.isub, 1) := by decide +kernel
theorem dX0_common_37 : decode cX0_common 37 = .ok (.istore_n 2, 1) := by decide +kernel
theorem dX0_common_38 : decode cX0_common 38 = .ok (.iload_n 0, 1) := by decide +kernel
theorem dX0_common_39 : decode cX0_common 39 = .ok (.iconst 3, 1) := by decide +kernel
theorem dX0_common_40 : decode cX0_common 40 = .ok (.invokestatic 9, 3) := by decide +kernel
theorem dX0_common_43 : decode cX0_common 43 = .ok (.iload_n 1, 1) := by decide +kernel
theorem dX0_common_44 : decode cX0_common 44 = .ok (.iconst 3, 1) := by decide +kernel
theorem dX0_common_45 : decode cX0_common 45 = .ok (.invokestatic 9, 3) := by decide +kernel
theorem dX0_common_48 : decode cX0_common 48 = .ok (.invokestatic 15, 3) := by decide +kernel
theorem dX0_common_51 : decode cX0_common 51 = .ok (.iload_n 0, 1) := by decide +kernel
theorem dX0_common_52 : decode cX0_common 52 = .ok (.iconst 1, 1) := by decide +kernel
theorem dX0_common_53 : decode cX0_common 53 = .ok (.invokestatic 9, 3) := by decide +kernel
theorem dX0_common_56 : decode cX0_common 56 = .ok (.iload_n 1, 1) := by decide +kernel
theorem dX0_common_57 : decode cX0_common 57 = .ok (.iconst 1, 1) := by decide +kernel
theorem dX0_common_58 : decode cX0_common 58 = .ok (.invokestatic 9, 3) := by decide +kernel
theorem dX0_common_61 : decode cX0_common 61 = .ok (.invokestatic 20, 3) := by decide +kernel
theorem dX0_common_64 : decode cX0_common 64 = .ok (.isub, 1) := by decide +kernel
theorem dX0_common_65 : decode cX0_common 65 = .ok (.istore_n 3, 1) := by decide +kernel
theorem dX0_common_66 : decode cX0_common 66 = .ok (.iload_n 2, 1) := by decide +kernel
theorem dX0_common_67 : decode cX0_common 67 = .ok (.iload_n 3, 1) := by decide +kernel
theorem dX0_common_68 : decode cX0_common 68 = .ok (.imul, 1) := by decide +kernel
theorem dX0_common_69 : decode cX0_common 69 = .ok (.ireturn, 1) := by decide +kernel
theorem dX0_distance_0 : decode cX0_distance 0 = .ok (.iconst 0, 1) := by decide +kernel
theorem dX0_distance_1 : decode cX0_distance 1 = .ok (.iload_n 0, 1) := by decide +kernel
theorem dX0_distance_2 : decode cX0_distance 2 = .ok (.iconst 0, 1) := by decide +kernel
theorem dX0_distance_3 : decode cX0_distance 3 = .ok (.invokestatic 9, 3) := by decide +kernel
theorem dX0_distance_6 : decode cX0_distance 6 = .ok (.iload_n 1, 1) := by decide +kernel
theorem dX0_distance_7 : decode cX0_distance 7 = .ok (.isub, 1) := by decide +kernel
theorem dX0_distance_8 : decode cX0_distance 8 = .ok (.iload_n 1, 1) := by decide +kernel
theorem dX0_distance_9 : decode cX0_distance 9 = .ok (.iload_n 0, 1) := by decide +kernel
theorem dX0_distance_10 : decode cX0_distance 10 = .ok (.iconst 2, 1) := by decide +kernel
theorem dX0_distance_11 : decode cX0_distance 11 = .ok (.invokestatic 9, 3) := by decide +kernel
theorem dX0_distance_14 : decode cX0_distance 14 = .ok (.isub, 1) := by decide +kernel
theorem dX0_distance_15 : decode cX0_distance 15 = .ok (.invokestatic 20, 3) := by decide +kernel
theorem dX0_distance_18 : decode cX0_distance 18 = .ok (.invokestatic 20, 3) := by decide +kernel
theorem dX0_distance_21 : decode cX0_distance 21 = .ok (.istore_n 3, 1) := by decide +kernel
theorem dX0_distance_22 : decode cX0_distance 22 = .ok (.iconst 0, 1) := by decide +kernel
theorem dX0_distance_23 : decode cX0_distance 23 = .ok (.iload_n 0, 1) := by decide +kernel
theorem dX0_distance_24 : decode cX0_distance 24 = .ok (.iconst 1, 1) := by decide +kernel
theorem dX0_distance_25 : decode cX0_distance 25 = .ok (.invokestatic 9, 3) := by decide +kernel
theorem dX0_distance_28 : decode cX0_distance 28 = .ok (.iload_n 2, 1) := by decide +kernel
theorem dX0_distance_29 : decode cX0_distance 29 = .ok (.isub, 1) := by decide +kernel
theorem dX0_distance_30 : decode cX0_distance 30 = .ok (.iload_n 2, 1) := by decide +kernel
theorem dX0_distance_31 : decode cX0_distance 31 = .ok (.iload_n 0, 1) := by decide +kernel
theorem dX0_distance_32 : decode cX0_distance 32 = .ok (.iconst 3, 1) := by decide +kernel
theorem dX0_distance_33 : decode cX0_distance 33 = .ok (.invokestatic 9, 3) := by decide +kernel
theorem dX0_distance_36 : decode cX0_distance 36 = .ok (.isub, 1) := by decide +kernel
theorem dX0_distance_37 : decode cX0_distance 37 = .ok (.invokestatic 20, 3) := by decide +kernel
theorem dX0_distance_40 : decode cX0_distance 40 = .ok (.invokestatic 20, 3) := by decide +kernel
theorem dX0_distance_43 : decode cX0_distance 43 = .ok (.istore 4, 2) := by decide +kernel
theorem dX0_distance_45 : decode cX0_distance 45 = .ok (.iload_n 3, 1) := by decide +kernel
theorem dX0_distance_46 : decode cX0_distance 46 = .ok (.iload_n 3, 1) := by decide +kernel
theorem dX0_distance_47 : decode cX0_distance 47 = .ok (.imul, 1) := by decide +kernel
theorem dX0_distance_48 : decode cX0_distance 48 = .ok (.iload 4, 2) := by decide +kernel
theorem dX0_distance_50 : decode cX0_distance 50 = .ok (.iload 4, 2) := by decide +kernel
theorem dX0_distance_52 : decode cX0_distance 52 = .ok (.imul, 1) := by decide +kernel
theorem dX0_distance_53 : decode cX0_distance 53 = .ok (.iadd, 1) := by decide +kernel
theorem dX0_distance_54 : decode cX0_distance 54 = .ok (.ireturn, 1) := by decide +kernel
theorem dX0_apart_0 : decode cX0_apart 0 = .ok (.iload_n 0, 1) := by decide +kernel
theorem dX0_apart_1 : decode cX0_apart 1 = .ok (.iconst 0, 1) := by decide +kernel
theorem dX0_apart_2 : decode cX0_apart 2 = .ok (.invokestatic 9, 3) := by decide +kernel
theorem dX0_apart_5 : decode cX0_apart 5 = .ok (.iload_n 0, 1) := by decide +kernel
theorem dX0_apart_6 : decode cX0_apart 6 = .ok (.iconst 2, 1) := by decide +kernel
theorem dX0_apart_7 : decode cX0_apart 7 = .ok (.invokestatic 9, 3) := by decide +kernel
theorem dX0_apart_10 : decode cX0_apart 10 = .ok (.iadd, 1) := by decide +kernel
theorem dX0_apart_11 : decode cX0_apart 11 = .ok (.iload_n 1, 1) := by decide +kernel
theorem dX0_apart_12 : decode cX0_apart 12 = .ok (.iconst 0, 1) := by decide +kernel
theorem dX0_apart_13 : decode cX0_apart 13 = .ok (.invokestatic 9, 3) := by decide +kernel
theorem dX0_apart_16 : decode cX0_apart 16 = .ok (.isub, 1) := by decide +kernel
theorem dX0_apart_17 : decode cX0_apart 17 = .ok (.iload_n 1, 1) := by decide +kernel
theorem dX0_apart_18 : decode cX0_apart 18 = .ok (.iconst 2, 1) := by decide +kernel
theorem dX0_apart_19 : decode cX0_apart 19 = .ok (.invokestatic 9, 3) := by decide +kernel
theorem dX0_apart_22 : decode cX0_apart 22 = .ok (.isub, 1) := by decide +kernel
theorem dX0_apart_23 : decode cX0_apart 23 = .ok (.istore_n 2, 1) := by decide +kernel
theorem dX0_apart_24 : decode cX0_apart 24 = .ok (.iload_n 0, 1) := by decide +kernel
theorem dX0_apart_25 : decode cX0_apart 25 = .ok (.iconst 1, 1) := by decide +kernel
theorem dX0_apart_26 : decode cX0_apart 26 = .ok (.invokestatic 9, 3) := by decide +kernel
theorem dX0_apart_29 : decode cX0_apart 29 = .ok (.iload_n 0, 1) := by decide +kernel
theorem dX0_apart_30 : decode cX0_apart 30 = .ok (.iconst 3, 1) := by decide +kernel
theorem dX0_apart_31 : decode cX0_apart 31 = .ok (.invokestatic 9, 3) := by decide +kernel
theorem dX0_apart_34 : decode cX0_apart 34 = .ok (.iadd, 1) := by decide +kernel
theorem dX0_apart_35 : decode cX0_apart 35 = .ok (.iload_n 1, 1) := by decide +kernel
theorem dX0_apart_36 : decode cX0_apart 36 = .ok (.iconst 1, 1) := by decide +kernel
theorem dX0_apart_37 : decode cX0_apart 37 = .ok (.invokestatic 9, 3) := by decide +kernel
theorem dX0_apart_40 : decode cX0_apart 40 = .ok (.isub, 1) := by decide +kernel
theorem dX0_apart_41 : decode cX0_apart 41 = .ok (.iload_n 1, 1) := by decide +kernel
theorem dX0_apart_42 : decode cX0_apart 42 = .ok (.iconst 3, 1) := by decide +kernel
theorem dX0_apart_43 : decode cX0_apart 43 = .ok (.invokestatic 9, 3) := by decide +kernel
theorem dX0_apart_46 : decode cX0_apart 46 = .ok (.isub, 1) := by decide +kernel
theorem dX0_apart_47 : decode cX0_apart 47 = .ok (.istore_n 3, 1) := by decide +kernel
theorem dX0_apart_48 : decode cX0_apart 48 = .ok (.iload_n 2, 1) := by decide +kernel
theorem dX0_apart_49 : decode cX0_apart 49 = .ok (.iload_n 2, 1) := by decide +kernel
theorem dX0_apart_50 : decode cX0_apart 50 = .ok (.imul, 1) := by decide +kernel
theorem dX0_apart_51 : decode cX0_apart 51 = .ok (.iload_n 3, 1) := by decide +kernel
theorem dX0_apart_52 : decode cX0_apart 52 = .ok (.iload_n 3, 1) := by decide +kernel
theorem dX0_apart_53 : decode cX0_apart 53 = .ok (.imul, 1) := by decide +kernel
theorem dX0_apart_54 : decode cX0_apart 54 = .ok (.iadd, 1) := by decide +kernel
theorem dX0_apart_55 : decode cX0_apart 55 = .ok (.ireturn, 1) := by decide +kernel
theorem dX0_key_0 : decode cX0_key 0 = .ok (.iload_n 0, 1) := by decide +kernel
theorem dX0_key_1 : decode cX0_key 1 = .ok (.iload_n 1, 1) := by decide +kernel
theorem dX0_key_2 : decode cX0_key 2 = .ok (.invokestatic 9, 3) := by decide +kernel
theorem dX0_key_5 : decode cX0_key 5 = .ok (.bipush 7, 2) := by decide +kernel
theorem dX0_key_7 : decode cX0_key 7 = .ok (.ishl, 1) := by decide +kernel
theorem dX0_key_8 : decode cX0_key 8 = .ok (.iload_n 0, 1) := by decide +kernel
theorem dX0_key_9 : decode cX0_key 9 = .ok (.iload_n 1, 1) := by decide +kernel
theorem dX0_key_10 : decode cX0_key 10 = .ok (.iconst 2, 1) := by decide +kernel
theorem dX0_key_11 : decode cX0_key 11 = .ok (.iadd, 1) := by decide +kernel
theorem dX0_key_12 : decode cX0_key 12 = .ok (.invokestatic 9, 3) := by decide +kernel
theorem dX0_key_15 : decode cX0_key 15 = .ok (.ior, 1) := by decide +kernel
theorem dX0_key_16 : decode cX0_key 16 = .ok (.ireturn, 1) := by decide +kernel
theorem dX1_init_0 : decode cX1_init 0 = .ok (.aload_n 0, 1) := by decide +kernel
theorem dX1_init_1 : decode cX1_init 1 = .ok (.invokespecial 3, 3) := by decide +kernel
theorem dX1_init_4 : decode cX1_init 4 = .ok (.aload_n 0, 1) := by decide +kernel
theorem dX1_init_5 : decode cX1_init 5 = .ok (.bipush 64, 2) := by decide +kernel
theorem dX1_init_7 : decode cX1_init 7 = .ok (.newarray .int, 2) := by decide +kernel
theorem dX1_init_9 : decode cX1_init 9 = .ok (.putfield 9, 3) := by decide +kernel
theorem dX1_init_12 : decode cX1_init 12 = .ok (.aload_n 0, 1) := by decide +kernel
theorem dX1_init_13 : decode cX1_init 13 = .ok (.bipush 64, 2) := by decide +kernel
theorem dX1_init_15 : decode cX1_init 15 = .ok (.newarray .int, 2) := by decide +kernel
theorem dX1_init_17 : decode cX1_init 17 = .ok (.putfield 15, 3) := by decide +kernel
theorem dX1_init_20 : decode cX1_init 20 = .ok (.aload_n 0, 1) := by decide +kernel
theorem dX1_init_21 : decode cX1_init 21 = .ok (.bipush 64, 2) := by decide +kernel
theorem dX1_init_23 : decode cX1_init 23 = .ok (.newarray .int, 2) := by decide +kernel
theorem dX1_init_25 : decode cX1_init 25 = .ok (.putfield 18, 3) := by decide +kernel
theorem dX1_init_28 : decode cX1_init 28 = .ok (.aload_n 0, 1) := by decide +kernel
theorem dX1_init_29 : decode cX1_init 29 = .ok (.bipush 64, 2) := by decide +kernel
theorem dX1_init_31 : decode cX1_init 31 = .ok (.newarray .int, 2) := by decide +kernel
theorem dX1_init_33 : decode cX1_init 33 = .ok (.putfield 21, 3) := by decide +kernel
theorem dX1_init_36 : decode cX1_init 36 = .ok (.aload_n 0, 1) := by decide +kernel
theorem dX1_init_37 : decode cX1_init 37 = .ok (.bipush 8, 2) := by decide +kernel
theorem dX1_init_39 : decode cX1_init 39 = .ok (.newarray .int, 2) := by decide +kernel
theorem dX1_init_41 : decode cX1_init 41 = .ok (.putfield 24, 3) := by decide +kernel
theorem dX1_init_44 : decode cX1_init 44 = .ok (.aload_n 0, 1) := by decide +kernel
theorem dX1_init_45 : decode cX1_init 45 = .ok (.iconst 5, 1) := by decide +kernel
theorem dX1_init_46 : decode cX1_init 46 = .ok (.newarray .int, 2) := by decide +kernel
theorem dX1_init_48 : decode cX1_init 48 = .ok (.putfield 27, 3) := by decide +kernel
theorem dX1_init_51 : decode cX1_init 51 = .ok (.aload_n 0, 1) := by decide +kernel
theorem dX1_init_52 : decode cX1_init 52 = .ok (.iconst 5, 1) := by decide +kernel
theorem dX1_init_53 : decode cX1_init 53 = .ok (.newarray .int, 2) := by decide +kernel
theorem dX1_init_55 : decode cX1_init 55 = .ok (.putfield 30, 3) := by decide +kernel
theorem dX1_init_58 : decode cX1_init 58 = .ok (.aload_n 0, 1) := by decide +kernel
theorem dX1_init_59 : decode cX1_init 59 = .ok (.aload_n 1, 1) := by decide +kernel
theorem dX1_init_60 : decode cX1_init 60 = .ok (.putfield 33, 3) := by decide +kernel
theorem dX1_init_63 : decode cX1_init 63 = .ok (.aload_n 0, 1) := by decide +kernel
theorem dX1_init_64 : decode cX1_init 64 = .ok (.aload_n 2, 1) := by decide +kernel
theorem dX1_init_65 : decode cX1_init 65 = .ok (.putfield 37, 3) := by decide +kernel
theorem dX1_init_68 : decode cX1_init 68 = .ok (.return_, 1) := by decide +kernel
theorem dX1_courtLevel_0 : decode cX1_courtLevel 0 = .ok (.aload_n 0, 1) := by decide +kernel
theorem dX1_courtLevel_1 : decode cX1_courtLevel 1 = .ok (.getfield 18, 3) := by decide +kernel
theorem dX1_courtLevel_4 : decode cX1_courtLevel 4 = .ok (.iload_n 1, 1) := by decide +kernel
theorem dX1_courtLevel_5 : decode cX1_courtLevel 5 = .ok (.invokestatic 41, 3) := by decide +kernel
theorem dX1_courtLevel_8 : decode cX1_courtLevel 8 = .ok (.ireturn, 1) := by decide +kernel
theorem dX1_courtBoxes_0 : decode cX1_courtBoxes 0 = .ok (.aload_n 0, 1) := by decide +kernel
theorem dX1_courtBoxes_1 : decode cX1_courtBoxes 1 = .ok (.getfield 21, 3) := by decide +kernel
theorem dX1_courtBoxes_4 : decode cX1_courtBoxes 4 = .ok (.iload_n 1, 1) := by decide +kernel
theorem dX1_courtBoxes_5 : decode cX1_courtBoxes 5 = .ok (.invokestatic 41, 3) := by decide +kernel
theorem dX1_courtBoxes_8 : decode cX1_courtBoxes 8 = .ok (.ireturn, 1) := by decide +kernel
theorem dX1_bringIn_0 : decode cX1_bringIn 0 = .ok (.aload_n 0, 1) := by decide +kernel
theorem dX1_bringIn_1 : decode cX1_bringIn 1 = .ok (.iconst 0, 1) := by decide +kernel
theorem dX1_bringIn_2 : decode cX1_bringIn 2 = .ok (.putfield 47, 3) := by decide +kernel
theorem dX1_bringIn_5 : decode cX1_bringIn 5 = .ok (.aload_n 0, 1) := by decide +kernel
theorem dX1_bringIn_6 : decode cX1_bringIn 6 = .ok (.getfield 33, 3) := by decide +kernel
theorem dX1_bringIn_9 : decode cX1_bringIn 9 = .ok (.iload_n 1, 1) := by decide +kernel
theorem dX1_bringIn_10 : decode cX1_bringIn 10 = .ok (.iload_n 2, 1) := by decide +kernel
theorem dX1_bringIn_11 : decode cX1_bringIn 11 = .ok (.invokevirtual 51, 3) := by decide +kernel
theorem dX1_bringIn_14 : decode cX1_bringIn 14 = .ok (.aload_n 0, 1) := by decide +kernel
theorem dX1_bringIn_15 : decode cX1_bringIn 15 = .ok (.iload_n 1, 1) := by decide +kernel
theorem dX1_bringIn_16 : decode cX1_bringIn 16 = .ok (.iconst 0, 1) := by decide +kernel
theorem dX1_bringIn_17 : decode cX1_bringIn 17 = .ok (.invokevirtual 57, 3) := by decide +kernel
theorem dX1_bringIn_20 : decode cX1_bringIn 20 = .ok (.return_, 1) := by decide +kernel
theorem dX1_takeOut_0 : decode cX1_takeOut 0 = .ok (.aload_n 0, 1) := by decide +kernel
theorem dX1_takeOut_1 : decode cX1_takeOut 1 = .ok (.iconst 0, 1) := by decide +kernel
theorem dX1_takeOut_2 : decode cX1_takeOut 2 = .ok (.putfield 47, 3) := by decide +kernel
theorem dX1_takeOut_5 : decode cX1_takeOut 5 = .ok (.aload_n 0, 1) := by decide +kernel
theorem dX1_takeOut_6 : decode cX1_takeOut 6 = .ok (.getfield 33, 3) := by decide +kernel
theorem dX1_takeOut_9 : decode cX1_takeOut 9 = .ok (.iload_n 1, 1) := by decide +kernel
theorem dX1_takeOut_10 : decode cX1_takeOut 10 = .ok (.invokevirtual 60, 3) := by decide +kernel
theorem dX1_takeOut_13 : decode cX1_takeOut 13 = .ok (.istore_n 2, 1) := by decide +kernel
theorem dX1_takeOut_14 : decode cX1_takeOut 14 = .ok (.aload_n 0, 1) := by decide +kernel
theorem dX1_takeOut_15 : decode cX1_takeOut 15 = .ok (.getfield 33, 3) := by decide +kernel
theorem dX1_takeOut_18 : decode cX1_takeOut 18 = .ok (.iload_n 2, 1) := by decide +kernel
theorem dX1_takeOut_19 : decode cX1_takeOut 19 = .ok (.aload_n 0, 1) := by decide +kernel
theorem dX1_takeOut_20 : decode cX1_takeOut 20 = .ok (.getfield 33, 3) := by decide +kernel
theorem dX1_takeOut_23 : decode cX1_takeOut 23 = .ok (.iload_n 2, 1) := by decide +kernel
theorem dX1_takeOut_24 : decode cX1_takeOut 24 = .ok (.iload_n 1, 1) := by decide +kernel
theorem dX1_takeOut_25 : decode cX1_takeOut 25 = .ok (.invokevirtual 64, 3) := by decide +kernel
theorem dX1_takeOut_28 : decode cX1_takeOut 28 = .ok (.invokevirtual 68, 3) := by decide +kernel
theorem dX1_takeOut_31 : decode cX1_takeOut 31 = .ok (.aload_n 0, 1) := by decide +kernel
theorem dX1_takeOut_32 : decode cX1_takeOut 32 = .ok (.getfield 33, 3) := by decide +kernel
theorem dX1_takeOut_35 : decode cX1_takeOut 35 = .ok (.iload_n 1, 1) := by decide +kernel
theorem dX1_takeOut_36 : decode cX1_takeOut 36 = .ok (.iconst (-1), 1) := by decide +kernel
theorem dX1_takeOut_37 : decode cX1_takeOut 37 = .ok (.invokevirtual 51, 3) := by decide +kernel
theorem dX1_takeOut_40 : decode cX1_takeOut 40 = .ok (.aload_n 0, 1) := by decide +kernel
theorem dX1_takeOut_41 : decode cX1_takeOut 41 = .ok (.getfield 33, 3) := by decide +kernel
theorem dX1_takeOut_44 : decode cX1_takeOut 44 = .ok (.iload_n 2, 1) := by decide +kernel
theorem dX1_takeOut_45 : decode cX1_takeOut 45 = .ok (.invokevirtual 71, 3) := by decide +kernel
theorem dX1_takeOut_48 : decode cX1_takeOut 48 = .ok (.aload_n 0, 1) := by decide +kernel
theorem dX1_takeOut_49 : decode cX1_takeOut 49 = .ok (.iload_n 2, 1) := by decide +kernel
theorem dX1_takeOut_50 : decode cX1_takeOut 50 = .ok (.invokevirtual 75, 3) := by decide +kernel
theorem dX1_takeOut_53 : decode cX1_takeOut 53 = .ok (.bipush 7, 2) := by decide +kernel
theorem dX1_takeOut_55 : decode cX1_takeOut 55 = .ok (.istore_n 3, 1) := by decide +kernel
theorem dX1_takeOut_56 : decode cX1_takeOut 56 = .ok (.iload_n 3, 1) := by decide +kernel
theorem dX1_takeOut_57 : decode cX1_takeOut 57 = .ok (.ifCond .lt 45, 3) := by decide +kernel
theorem dX1_takeOut_60 : decode cX1_takeOut 60 = .ok (.aload_n 0, 1) := by decide +kernel
theorem dX1_takeOut_61 : decode cX1_takeOut 61 = .ok (.getfield 24, 3) := by decide +kernel
theorem dX1_takeOut_64 : decode cX1_takeOut 64 = .ok (.iload_n 3, 1) := by decide +kernel
theorem dX1_takeOut_65 : decode cX1_takeOut 65 = .ok (.invokestatic 41, 3) := by decide +kernel
theorem dX1_takeOut_68 : decode cX1_takeOut 68 = .ok (.istore 4, 2) := by decide +kernel
theorem dX1_takeOut_70 : decode cX1_takeOut 70 = .ok (.iload 4, 2) := by decide +kernel
theorem dX1_takeOut_72 : decode cX1_takeOut 72 = .ok (.iconst (-1), 1) := by decide +kernel
theorem dX1_takeOut_73 : decode cX1_takeOut 73 = .ok (.if_icmp .eq 23, 3) := by decide +kernel
theorem dX1_takeOut_76 : decode cX1_takeOut 76 = .ok (.aload_n 0, 1) := by decide +kernel
theorem dX1_takeOut_77 : decode cX1_takeOut 77 = .ok (.getfield 33, 3) := by decide +kernel
theorem dX1_takeOut_80 : decode cX1_takeOut 80 = .ok (.dup, 1) := by decide +kernel
theorem dX1_takeOut_81 : decode cX1_takeOut 81 = .ok (.getfield 78, 3) := by decide +kernel
theorem dX1_takeOut_84 : decode cX1_takeOut 84 = .ok (.iconst 1, 1) := by decide +kernel
theorem dX1_takeOut_85 : decode cX1_takeOut 85 = .ok (.iadd, 1) := by decide +kernel
theorem dX1_takeOut_86 : decode cX1_takeOut 86 = .ok (.putfield 78, 3) := by decide +kernel
theorem dX1_takeOut_89 : decode cX1_takeOut 89 = .ok (.aload_n 0, 1) := by decide +kernel
theorem dX1_takeOut_90 : decode cX1_takeOut 90 = .ok (.iload 4, 2) := by decide +kernel
theorem dX1_takeOut_92 : decode cX1_takeOut 92 = .ok (.iload_n 3, 1) := by decide +kernel
theorem dX1_takeOut_93 : decode cX1_takeOut 93 = .ok (.invokevirtual 57, 3) := by decide +kernel
theorem dX1_takeOut_96 : decode cX1_takeOut 96 = .ok (.iinc 3 (-1), 3) := by decide +kernel
theorem dX1_takeOut_99 : decode cX1_takeOut 99 = .ok (.goto (-43), 3) := by decide +kernel
theorem dX1_takeOut_102 : decode cX1_takeOut 102 = .ok (.aload_n 0, 1) := by decide +kernel
theorem dX1_takeOut_103 : decode cX1_takeOut 103 = .ok (.getfield 33, 3) := by decide +kernel
theorem dX1_takeOut_106 : decode cX1_takeOut 106 = .ok (.invokevirtual 80, 3) := by decide +kernel
theorem dX1_takeOut_109 : decode cX1_takeOut 109 = .ok (.return_, 1) := by decide +kernel
theorem dX1_dissolveFrom_0 : decode cX1_dissolveFrom 0 = .ok (.aload_n 0, 1) := by decide +kernel
theorem dX1_dissolveFrom_1 : decode cX1_dissolveFrom 1 = .ok (.getfield 24, 3) := by decide +kernel
theorem dX1_dissolveFrom_4 : decode cX1_dissolveFrom 4 = .ok (.iconst (-1), 1) := by decide +kernel
theorem dX1_dissolveFrom_5 : decode cX1_dissolveFrom 5 = .ok (.invokestatic 83, 3) := by decide +kernel
theorem dX1_dissolveFrom_8 : decode cX1_dissolveFrom 8 = .ok (.iload_n 1, 1) := by decide +kernel
theorem dX1_dissolveFrom_9 : decode cX1_dissolveFrom 9 = .ok (.istore_n 2, 1) := by decide +kernel
theorem dX1_dissolveFrom_10 : decode cX1_dissolveFrom 10 = .ok (.iconst 0, 1) := by decide +kernel
theorem dX1_dissolveFrom_11 : decode cX1_dissolveFrom 11 = .ok (.istore_n 3, 1) := by decide +kernel
theorem dX1_dissolveFrom_12 : decode cX1_dissolveFrom 12 = .ok (.iload_n 3, 1) := by decide +kernel
theorem dX1_dissolveFrom_13 : decode cX1_dissolveFrom 13 = .ok (.bipush 8, 2) := by decide +kernel
theorem dX1_dissolveFrom_15 : decode cX1_dissolveFrom 15 = .ok (.if_icmp .ge 110, 3) := by decide +kernel
theorem dX1_dissolveFrom_18 : decode cX1_dissolveFrom 18 = .ok (.iload_n 2, 1) := by decide +kernel
theorem dX1_dissolveFrom_19 : decode cX1_dissolveFrom 19 = .ok (.iconst (-1), 1) := by decide +kernel
theorem dX1_dissolveFrom_20 : decode cX1_dissolveFrom 20 = .ok (.if_icmp .eq 105, 3) := by decide +kernel
theorem dX1_dissolveFrom_23 : decode cX1_dissolveFrom 23 = .ok (.iload_n 2, 1) := by decide +kernel
theorem dX1_dissolveFrom_24 : decode cX1_dissolveFrom 24 = .ok (.aload_n 0, 1) := by decide +kernel
theorem dX1_dissolveFrom_25 : decode cX1_dissolveFrom 25 = .ok (.getfield 33, 3) := by decide +kernel
theorem dX1_dissolveFrom_28 : decode cX1_dissolveFrom 28 = .ok (.getfield 89, 3) := by decide +kernel
theorem dX1_dissolveFrom_31 : decode cX1_dissolveFrom 31 = .ok (.if_icmp .eq 94, 3) := by decide +kernel
theorem dX1_dissolveFrom_34 : decode cX1_dissolveFrom 34 = .ok (.aload_n 0, 1) := by decide +kernel
theorem dX1_dissolveFrom_35 : decode cX1_dissolveFrom 35 = .ok (.getfield 33, 3) := by decide +kernel
theorem dX1_dissolveFrom_38 : decode cX1_dissolveFrom 38 = .ok (.iload_n 2, 1) := by decide +kernel
theorem dX1_dissolveFrom_39 : decode cX1_dissolveFrom 39 = .ok (.invokevirtual 92, 3) := by decide +kernel
theorem dX1_dissolveFrom_42 : decode cX1_dissolveFrom 42 = .ok (.istore 4, 2) := by decide +kernel
theorem dX1_dissolveFrom_44 : decode cX1_dissolveFrom 44 = .ok (.aload_n 0, 1) := by decide +kernel
theorem dX1_dissolveFrom_45 : decode cX1_dissolveFrom 45 = .ok (.getfield 33, 3) := by decide +kernel
theorem dX1_dissolveFrom_48 : decode cX1_dissolveFrom 48 = .ok (.iload_n 2, 1) := by decide +kernel
theorem dX1_dissolveFrom_49 : decode cX1_dissolveFrom 49 = .ok (.invokevirtual 95, 3) := by decide +kernel
theorem dX1_dissolveFrom_52 : decode cX1_dissolveFrom 52 = .ok (.iconst 2, 1) := by decide +kernel
theorem dX1_dissolveFrom_53 : decode cX1_dissolveFrom 53 = .ok (.if_icmp .ge 63, 3) := by decide +kernel
theorem dX1_dissolveFrom_56 : decode cX1_dissolveFrom 56 = .ok (.aload_n 0, 1) := by decide +kernel
theorem dX1_dissolveFrom_57 : decode cX1_dissolveFrom 57 = .ok (.getfield 24, 3) := by decide +kernel
theorem dX1_dissolveFrom_60 : decode cX1_dissolveFrom 60 = .ok (.aload_n 0, 1) := by decide +kernel
theorem dX1_dissolveFrom_61 : decode cX1_dissolveFrom 61 = .ok (.getfield 33, 3) := by decide +kernel
theorem dX1_dissolveFrom_64 : decode cX1_dissolveFrom 64 = .ok (.iload_n 2, 1) := by decide +kernel
theorem dX1_dissolveFrom_65 : decode cX1_dissolveFrom 65 = .ok (.invokevirtual 98, 3) := by decide +kernel
theorem dX1_dissolveFrom_68 : decode cX1_dissolveFrom 68 = .ok (.aload_n 0, 1) := by decide +kernel
theorem dX1_dissolveFrom_69 : decode cX1_dissolveFrom 69 = .ok (.getfield 33, 3) := by decide +kernel
theorem dX1_dissolveFrom_72 : decode cX1_dissolveFrom 72 = .ok (.iload_n 2, 1) := by decide +kernel
theorem dX1_dissolveFrom_73 : decode cX1_dissolveFrom 73 = .ok (.iconst 0, 1) := by decide +kernel
theorem dX1_dissolveFrom_74 : decode cX1_dissolveFrom 74 = .ok (.invokevirtual 101, 3) := by decide +kernel
theorem dX1_dissolveFrom_77 : decode cX1_dissolveFrom 77 = .ok (.invokestatic 104, 3) := by decide +kernel
theorem dX1_dissolveFrom_80 : decode cX1_dissolveFrom 80 = .ok (.aload_n 0, 1) := by decide +kernel
theorem dX1_dissolveFrom_81 : decode cX1_dissolveFrom 81 = .ok (.getfield 33, 3) := by decide +kernel
theorem dX1_dissolveFrom_84 : decode cX1_dissolveFrom 84 = .ok (.iload 4, 2) := by decide +kernel
theorem dX1_dissolveFrom_86 : decode cX1_dissolveFrom 86 = .ok (.aload_n 0, 1) := by decide +kernel
theorem dX1_dissolveFrom_87 : decode cX1_dissolveFrom 87 = .ok (.getfield 33, 3) := by decide +kernel
theorem dX1_dissolveFrom_90 : decode cX1_dissolveFrom 90 = .ok (.iload 4, 2) := by decide +kernel
theorem dX1_dissolveFrom_92 : decode cX1_dissolveFrom 92 = .ok (.iload_n 2, 1) := by decide +kernel
theorem dX1_dissolveFrom_93 : decode cX1_dissolveFrom 93 = .ok (.invokevirtual 64, 3) := by decide +kernel
theorem dX1_dissolveFrom_96 : decode cX1_dissolveFrom 96 = .ok (.invokevirtual 68, 3) := by decide +kernel
theorem dX1_dissolveFrom_99 : decode cX1_dissolveFrom 99 = .ok (.aload_n 0, 1) := by decide +kernel
theorem dX1_dissolveFrom_100 : decode cX1_dissolveFrom 100 = .ok (.getfield 33, 3) := by decide +kernel
theorem dX1_dissolveFrom_103 : decode cX1_dissolveFrom 103 = .ok (.iload_n 2, 1) := by decide +kernel
theorem dX1_dissolveFrom_104 : decode cX1_dissolveFrom 104 = .ok (.invokevirtual 108, 3) := by decide +kernel
theorem dX1_dissolveFrom_107 : decode cX1_dissolveFrom 107 = .ok (.aload_n 0, 1) := by decide +kernel
theorem dX1_dissolveFrom_108 : decode cX1_dissolveFrom 108 = .ok (.getfield 33, 3) := by decide +kernel
theorem dX1_dissolveFrom_111 : decode cX1_dissolveFrom 111 = .ok (.iload 4, 2) := by decide +kernel
theorem dX1_dissolveFrom_113 : decode cX1_dissolveFrom 113 = .ok (.invokevirtual 71, 3) := by decide +kernel
theorem dX1_dissolveFrom_116 : decode cX1_dissolveFrom 116 = .ok (.iload 4, 2) := by decide +kernel
theorem dX1_dissolveFrom_118 : decode cX1_dissolveFrom 118 = .ok (.istore_n 2, 1) := by decide +kernel
theorem dX1_dissolveFrom_119 : decode cX1_dissolveFrom 119 = .ok (.iinc 3 1, 3) := by decide +kernel
theorem dX1_dissolveFrom_122 : decode cX1_dissolveFrom 122 = .ok (.goto (-110), 3) := by decide +kernel
theorem dX1_dissolveFrom_125 : decode cX1_dissolveFrom 125 = .ok (.return_, 1) := by decide +kernel
theorem dX1_insert_0 : decode cX1_insert 0 = .ok (.aload_n 0, 1) := by decide +kernel
theorem dX1_insert_1 : decode cX1_insert 1 = .ok (.iconst 0, 1) := by decide +kernel
theorem dX1_insert_2 : decode cX1_insert 2 = .ok (.putfield 111, 3) := by decide +kernel
theorem dX1_insert_5 : decode cX1_insert 5 = .ok (.aload_n 0, 1) := by decide +kernel
theorem dX1_insert_6 : decode cX1_insert 6 = .ok (.iconst 0, 1) := by decide +kernel
theorem dX1_insert_7 : decode cX1_insert 7 = .ok (.putfield 114, 3) := by decide +kernel
theorem dX1_insert_10 : decode cX1_insert 10 = .ok (.aload_n 0, 1) := by decide +kernel
theorem dX1_insert_11 : decode cX1_insert 11 = .ok (.iload_n 1, 1) := by decide +kernel
theorem dX1_insert_12 : decode cX1_insert 12 = .ok (.iload_n 2, 1) := by decide +kernel
theorem dX1_insert_13 : decode cX1_insert 13 = .ok (.invokevirtual 117, 3) := by decide +kernel
theorem dX1_insert_16 : decode cX1_insert 16 = .ok (.iconst 0, 1) := by decide +kernel
theorem dX1_insert_17 : decode cX1_insert 17 = .ok (.istore_n 3, 1) := by decide +kernel
theorem dX1_insert_18 : decode cX1_insert 18 = .ok (.iload_n 3, 1) := by decide +kernel
theorem dX1_insert_19 : decode cX1_insert 19 = .ok (.bipush 64, 2) := by decide +kernel
theorem dX1_insert_21 : decode cX1_insert 21 = .ok (.if_icmp .ge 158, 3) := by decide +kernel
theorem dX1_insert_24 : decode cX1_insert 24 = .ok (.aload_n 0, 1) := by decide +kernel
theorem dX1_insert_25 : decode cX1_insert 25 = .ok (.getfield 114, 3) := by decide +kernel
theorem dX1_insert_28 : decode cX1_insert 28 = .ok (.ifCond .le 151, 3) := by decide +kernel
theorem dX1_insert_31 : decode cX1_insert 31 = .ok (.aload_n 0, 1) := by decide +kernel
theorem dX1_insert_32 : decode cX1_insert 32 = .ok (.dup, 1) := by decide +kernel
theorem dX1_insert_33 : decode cX1_insert 33 = .ok (.getfield 114, 3) := by decide +kernel
theorem dX1_insert_36 : decode cX1_insert 36 = .ok (.iconst 1, 1) := by decide +kernel
theorem dX1_insert_37 : decode cX1_insert 37 = .ok (.isub, 1) := by decide +kernel
theorem dX1_insert_38 : decode cX1_insert 38 = .ok (.putfield 114, 3) := by decide +kernel
theorem dX1_insert_41 : decode cX1_insert 41 = .ok (.aload_n 0, 1) := by decide +kernel
theorem dX1_insert_42 : decode cX1_insert 42 = .ok (.getfield 9, 3) := by decide +kernel
theorem dX1_insert_45 : decode cX1_insert 45 = .ok (.aload_n 0, 1) := by decide +kernel
theorem dX1_insert_46 : decode cX1_insert 46 = .ok (.getfield 114, 3) := by decide +kernel
theorem dX1_insert_49 : decode cX1_insert 49 = .ok (.invokestatic 41, 3) := by decide +kernel
theorem dX1_insert_52 : decode cX1_insert 52 = .ok (.istore 4, 2) := by decide +kernel
theorem dX1_insert_54 : decode cX1_insert 54 = .ok (.aload_n 0, 1) := by decide +kernel
theorem dX1_insert_55 : decode cX1_insert 55 = .ok (.getfield 15, 3) := by decide +kernel
theorem dX1_insert_58 : decode cX1_insert 58 = .ok (.aload_n 0, 1) := by decide +kernel
theorem dX1_insert_59 : decode cX1_insert 59 = .ok (.getfield 114, 3) := by decide +kernel
theorem dX1_insert_62 : decode cX1_insert 62 = .ok (.invokestatic 41, 3) := by decide +kernel
theorem dX1_insert_65 : decode cX1_insert 65 = .ok (.istore 5, 2) := by decide +kernel
theorem dX1_insert_67 : decode cX1_insert 67 = .ok (.aload_n 0, 1) := by decide +kernel
theorem dX1_insert_68 : decode cX1_insert 68 = .ok (.getfield 33, 3) := by decide +kernel
theorem dX1_insert_71 : decode cX1_insert 71 = .ok (.aload_n 0, 1) := by decide +kernel
theorem dX1_insert_72 : decode cX1_insert 72 = .ok (.getfield 33, 3) := by decide +kernel
theorem dX1_insert_75 : decode cX1_insert 75 = .ok (.iload 4, 2) := by decide +kernel
theorem dX1_insert_77 : decode cX1_insert 77 = .ok (.iload 5, 2) := by decide +kernel
theorem dX1_insert_79 : decode cX1_insert 79 = .ok (.invokevirtual 120, 3) := by decide +kernel
theorem dX1_insert_82 : decode cX1_insert 82 = .ok (.iload 5, 2) := by decide +kernel
theorem dX1_insert_84 : decode cX1_insert 84 = .ok (.invokevirtual 123, 3) := by decide +kernel
theorem dX1_insert_87 : decode cX1_insert 87 = .ok (.istore 6, 2) := by decide +kernel
theorem dX1_insert_89 : decode cX1_insert 89 = .ok (.aload_n 0, 1) := by decide +kernel
theorem dX1_insert_90 : decode cX1_insert 90 = .ok (.getfield 33, 3) := by decide +kernel
theorem dX1_insert_93 : decode cX1_insert 93 = .ok (.iload 6, 2) := by decide +kernel
theorem dX1_insert_95 : decode cX1_insert 95 = .ok (.aload_n 0, 1) := by decide +kernel
theorem dX1_insert_96 : decode cX1_insert 96 = .ok (.getfield 33, 3) := by decide +kernel
theorem dX1_insert_99 : decode cX1_insert 99 = .ok (.iload 6, 2) := by decide +kernel
theorem dX1_insert_101 : decode cX1_insert 101 = .ok (.invokevirtual 95, 3) := by decide +kernel
theorem dX1_insert_104 : decode cX1_insert 104 = .ok (.iload 4, 2) := by decide +kernel
theorem dX1_insert_106 : decode cX1_insert 106 = .ok (.invokevirtual 126, 3) := by decide +kernel
theorem dX1_insert_109 : decode cX1_insert 109 = .ok (.aload_n 0, 1) := by decide +kernel
theorem dX1_insert_110 : decode cX1_insert 110 = .ok (.getfield 33, 3) := by decide +kernel
theorem dX1_insert_113 : decode cX1_insert 113 = .ok (.iload 6, 2) := by decide +kernel
theorem dX1_insert_115 : decode cX1_insert 115 = .ok (.invokevirtual 71, 3) := by decide +kernel
theorem dX1_insert_118 : decode cX1_insert 118 = .ok (.iconst 0, 1) := by decide +kernel
theorem dX1_insert_119 : decode cX1_insert 119 = .ok (.istore 7, 2) := by decide +kernel
theorem dX1_insert_121 : decode cX1_insert 121 = .ok (.iload 7, 2) := by decide +kernel
theorem dX1_insert_123 : decode cX1_insert 123 = .ok (.bipush 8, 2) := by decide +kernel
theorem dX1_insert_125 : decode cX1_insert 125 = .ok (.if_icmp .ge 48, 3) := by decide +kernel
theorem dX1_insert_128 : decode cX1_insert 128 = .ok (.aload_n 0, 1) := by decide +kernel
theorem dX1_insert_129 : decode cX1_insert 129 = .ok (.getfield 33, 3) := by decide +kernel
theorem dX1_insert_132 : decode cX1_insert 132 = .ok (.iload 6, 2) := by decide +kernel
theorem dX1_insert_134 : decode cX1_insert 134 = .ok (.invokevirtual 95, 3) := by decide +kernel
theorem dX1_insert_137 : decode cX1_insert 137 = .ok (.iconst 4, 1) := by decide +kernel
theorem dX1_insert_138 : decode cX1_insert 138 = .ok (.if_icmp .le 35, 3) := by decide +kernel
theorem dX1_insert_141 : decode cX1_insert 141 = .ok (.aload_n 0, 1) := by decide +kernel
theorem dX1_insert_142 : decode cX1_insert 142 = .ok (.iload 6, 2) := by decide +kernel
theorem dX1_insert_144 : decode cX1_insert 144 = .ok (.invokevirtual 130, 3) := by decide +kernel
theorem dX1_insert_147 : decode cX1_insert 147 = .ok (.ifCond .eq 12, 3) := by decide +kernel
theorem dX1_insert_150 : decode cX1_insert 150 = .ok (.aload_n 0, 1) := by decide +kernel
theorem dX1_insert_151 : decode cX1_insert 151 = .ok (.iload 6, 2) := by decide +kernel
theorem dX1_insert_153 : decode cX1_insert 153 = .ok (.invokevirtual 134, 3) := by decide +kernel
theorem dX1_insert_156 : decode cX1_insert 156 = .ok (.goto 9, 3) := by decide +kernel
theorem dX1_insert_159 : decode cX1_insert 159 = .ok (.aload_n 0, 1) := by decide +kernel
theorem dX1_insert_160 : decode cX1_insert 160 = .ok (.iload 6, 2) := by decide +kernel
theorem dX1_insert_162 : decode cX1_insert 162 = .ok (.invokevirtual 137, 3) := by decide +kernel
theorem dX1_insert_165 : decode cX1_insert 165 = .ok (.istore 6, 2) := by decide +kernel
theorem dX1_insert_167 : decode cX1_insert 167 = .ok (.iinc 7 1, 3) := by decide +kernel
theorem dX1_insert_170 : decode cX1_insert 170 = .ok (.goto (-49), 3) := by decide +kernel
theorem dX1_insert_173 : decode cX1_insert 173 = .ok (.iinc 3 1, 3) := by decide +kernel
theorem dX1_insert_176 : decode cX1_insert 176 = .ok (.goto (-158), 3) := by decide +kernel
theorem dX1_insert_179 : decode cX1_insert 179 = .ok (.return_, 1) := by decide +kernel
theorem dX1_await_0 : decode cX1_await 0 = .ok (.aload_n 0, 1) := by decide +kernel
theorem dX1_await_1 : decode cX1_await 1 = .ok (.getfield 114, 3) := by decide +kernel
theorem dX1_await_4 : decode cX1_await 4 = .ok (.bipush 64, 2) := by decide +kernel
theorem dX1_await_6 : decode cX1_await 6 = .ok (.if_icmp .ge 37, 3) := by decide +kernel
theorem dX1_await_9 : decode cX1_await 9 = .ok (.aload_n 0, 1) := by decide +kernel
theorem dX1_await_10 : decode cX1_await 10 = .ok (.getfield 9, 3) := by decide +kernel
theorem dX1_await_13 : decode cX1_await 13 = .ok (.aload_n 0, 1) := by decide +kernel
theorem dX1_await_14 : decode cX1_await 14 = .ok (.getfield 114, 3) := by decide +kernel
theorem dX1_await_17 : decode cX1_await 17 = .ok (.iload_n 1, 1) := by decide +kernel
theorem dX1_await_18 : decode cX1_await 18 = .ok (.invokestatic 104, 3) := by decide +kernel
theorem dX1_await_21 : decode cX1_await 21 = .ok (.aload_n 0, 1) := by decide +kernel
theorem dX1_await_22 : decode cX1_await 22 = .ok (.getfield 15, 3) := by decide +kernel
theorem dX1_await_25 : decode cX1_await 25 = .ok (.aload_n 0, 1) := by decide +kernel
theorem dX1_await_26 : decode cX1_await 26 = .ok (.getfield 114, 3) := by decide +kernel
theorem dX1_await_29 : decode cX1_await 29 = .ok (.iload_n 2, 1) := by decide +kernel
theorem dX1_await_30 : decode cX1_await 30 = .ok (.invokestatic 104, 3) := by decide +kernel
theorem dX1_await_33 : decode cX1_await 33 = .ok (.aload_n 0, 1) := by decide +kernel
theorem dX1_await_34 : decode cX1_await 34 = .ok (.dup, 1) := by decide +kernel
theorem dX1_await_35 : decode cX1_await 35 = .ok (.getfield 114, 3) := by decide +kernel
theorem dX1_await_38 : decode cX1_await 38 = .ok (.iconst 1, 1) := by decide +kernel
theorem dX1_await_39 : decode cX1_await 39 = .ok (.iadd, 1) := by decide +kernel
theorem dX1_await_40 : decode cX1_await 40 = .ok (.putfield 114, 3) := by decide +kernel
theorem dX1_await_43 : decode cX1_await 43 = .ok (.return_, 1) := by decide +kernel
theorem dX1_courtIsDue_0 : decode cX1_courtIsDue 0 = .ok (.iload_n 1, 1) := by decide +kernel
theorem dX1_courtIsDue_1 : decode cX1_courtIsDue 1 = .ok (.aload_n 0, 1) := by decide +kernel
theorem dX1_courtIsDue_2 : decode cX1_courtIsDue 2 = .ok (.getfield 33, 3) := by decide +kernel
theorem dX1_courtIsDue_5 : decode cX1_courtIsDue 5 = .ok (.getfield 89, 3) := by decide +kernel
theorem dX1_courtIsDue_8 : decode cX1_courtIsDue 8 = .ok (.if_icmp .eq 25, 3) := by decide +kernel
theorem dX1_courtIsDue_11 : decode cX1_courtIsDue 11 = .ok (.aload_n 0, 1) := by decide +kernel
theorem dX1_courtIsDue_12 : decode cX1_courtIsDue 12 = .ok (.getfield 111, 3) := by decide +kernel
theorem dX1_courtIsDue_15 : decode cX1_courtIsDue 15 = .ok (.aload_n 0, 1) := by decide +kernel
theorem dX1_courtIsDue_16 : decode cX1_courtIsDue 16 = .ok (.getfield 33, 3) := by decide +kernel
theorem dX1_courtIsDue_19 : decode cX1_courtIsDue 19 = .ok (.iload_n 1, 1) := by decide +kernel
theorem dX1_courtIsDue_20 : decode cX1_courtIsDue 20 = .ok (.invokevirtual 98, 3) := by decide +kernel
theorem dX1_courtIsDue_23 : decode cX1_courtIsDue 23 = .ok (.ishr, 1) := by decide +kernel
theorem dX1_courtIsDue_24 : decode cX1_courtIsDue 24 = .ok (.iconst 1, 1) := by decide +kernel
theorem dX1_courtIsDue_25 : decode cX1_courtIsDue 25 = .ok (.iand, 1) := by decide +kernel
theorem dX1_courtIsDue_26 : decode cX1_courtIsDue 26 = .ok (.ifCond .ne 7, 3) := by decide +kernel
theorem dX1_courtIsDue_29 : decode cX1_courtIsDue 29 = .ok (.iconst 1, 1) := by decide +kernel
theorem dX1_courtIsDue_30 : decode cX1_courtIsDue 30 = .ok (.goto 4, 3) := by decide +kernel
theorem dX1_courtIsDue_33 : decode cX1_courtIsDue 33 = .ok (.iconst 0, 1) := by decide +kernel
theorem dX1_courtIsDue_34 : decode cX1_courtIsDue 34 = .ok (.ireturn, 1) := by decide +kernel
theorem dX1_holdCourt_0 : decode cX1_holdCourt 0 = .ok (.aload_n 0, 1) := by decide +kernel
theorem dX1_holdCourt_1 : decode cX1_holdCourt 1 = .ok (.getfield 33, 3) := by decide +kernel
theorem dX1_holdCourt_4 : decode cX1_holdCourt 4 = .ok (.iload_n 1, 1) := by decide +kernel
theorem dX1_holdCourt_5 : decode cX1_holdCourt 5 = .ok (.invokevirtual 98, 3) := by decide +kernel
theorem dX1_holdCourt_8 : decode cX1_holdCourt 8 = .ok (.istore_n 2, 1) := by decide +kernel
theorem dX1_holdCourt_9 : decode cX1_holdCourt 9 = .ok (.aload_n 0, 1) := by decide +kernel
theorem dX1_holdCourt_10 : decode cX1_holdCourt 10 = .ok (.iload_n 1, 1) := by decide +kernel
theorem dX1_holdCourt_11 : decode cX1_holdCourt 11 = .ok (.iconst (-1), 1) := by decide +kernel
theorem dX1_holdCourt_12 : decode cX1_holdCourt 12 = .ok (.invokevirtual 140, 3) := by decide +kernel
theorem dX1_holdCourt_15 : decode cX1_holdCourt 15 = .ok (.istore_n 3, 1) := by decide +kernel
theorem dX1_holdCourt_16 : decode cX1_holdCourt 16 = .ok (.aload_n 0, 1) := by decide +kernel
theorem dX1_holdCourt_17 : decode cX1_holdCourt 17 = .ok (.iload_n 1, 1) := by decide +kernel
theorem dX1_holdCourt_18 : decode cX1_holdCourt 18 = .ok (.iload_n 3, 1) := by decide +kernel
theorem dX1_holdCourt_19 : decode cX1_holdCourt 19 = .ok (.invokevirtual 140, 3) := by decide +kernel
theorem dX1_holdCourt_22 : decode cX1_holdCourt 22 = .ok (.istore 4, 2) := by decide +kernel
theorem dX1_holdCourt_24 : decode cX1_holdCourt 24 = .ok (.aload_n 0, 1) := by decide +kernel
theorem dX1_holdCourt_25 : decode cX1_holdCourt 25 = .ok (.getfield 33, 3) := by decide +kernel
theorem dX1_holdCourt_28 : decode cX1_holdCourt 28 = .ok (.iload_n 1, 1) := by decide +kernel
theorem dX1_holdCourt_29 : decode cX1_holdCourt 29 = .ok (.iload_n 3, 1) := by decide +kernel
theorem dX1_holdCourt_30 : decode cX1_holdCourt 30 = .ok (.invokevirtual 101, 3) := by decide +kernel
theorem dX1_holdCourt_33 : decode cX1_holdCourt 33 = .ok (.istore 5, 2) := by decide +kernel
theorem dX1_holdCourt_35 : decode cX1_holdCourt 35 = .ok (.aload_n 0, 1) := by decide +kernel
theorem dX1_holdCourt_36 : decode cX1_holdCourt 36 = .ok (.getfield 33, 3) := by decide +kernel
theorem dX1_holdCourt_39 : decode cX1_holdCourt 39 = .ok (.iload_n 1, 1) := by decide +kernel
theorem dX1_holdCourt_40 : decode cX1_holdCourt 40 = .ok (.iload 4, 2) := by decide +kernel
theorem dX1_holdCourt_42 : decode cX1_holdCourt 42 = .ok (.invokevirtual 101, 3) := by decide +kernel
theorem dX1_holdCourt_45 : decode cX1_holdCourt 45 = .ok (.istore 6, 2) := by decide +kernel
theorem dX1_holdCourt_47 : decode cX1_holdCourt 47 = .ok (.aload_n 0, 1) := by decide +kernel
theorem dX1_holdCourt_48 : decode cX1_holdCourt 48 = .ok (.dup, 1) := by decide +kernel
theorem dX1_holdCourt_49 : decode cX1_holdCourt 49 = .ok (.getfield 111, 3) := by decide +kernel
theorem dX1_holdCourt_52 : decode cX1_holdCourt 52 = .ok (.iconst 1, 1) := by decide +kernel
theorem dX1_holdCourt_53 : decode cX1_holdCourt 53 = .ok (.iload_n 2, 1) := by decide +kernel
theorem dX1_holdCourt_54 : decode cX1_holdCourt 54 = .ok (.ishl, 1) := by decide +kernel
theorem dX1_holdCourt_55 : decode cX1_holdCourt 55 = .ok (.ior, 1) := by decide +kernel
theorem dX1_holdCourt_56 : decode cX1_holdCourt 56 = .ok (.putfield 111, 3) := by decide +kernel
theorem dX1_holdCourt_59 : decode cX1_holdCourt 59 = .ok (.aload_n 0, 1) := by decide +kernel
theorem dX1_holdCourt_60 : decode cX1_holdCourt 60 = .ok (.iload_n 2, 1) := by decide +kernel
theorem dX1_holdCourt_61 : decode cX1_holdCourt 61 = .ok (.iload_n 2, 1) := by decide +kernel
theorem dX1_holdCourt_62 : decode cX1_holdCourt 62 = .ok (.ifCond .ne 7, 3) := by decide +kernel
theorem dX1_holdCourt_65 : decode cX1_holdCourt 65 = .ok (.iconst 2, 1) := by decide +kernel
theorem dX1_holdCourt_66 : decode cX1_holdCourt 66 = .ok (.goto 22, 3) := by decide +kernel
theorem dX1_holdCourt_69 : decode cX1_holdCourt 69 = .ok (.aload_n 0, 1) := by decide +kernel
theorem dX1_holdCourt_70 : decode cX1_holdCourt 70 = .ok (.getfield 37, 3) := by decide +kernel
theorem dX1_holdCourt_73 : decode cX1_holdCourt 73 = .ok (.iload 5, 2) := by decide +kernel
theorem dX1_holdCourt_75 : decode cX1_holdCourt 75 = .ok (.invokevirtual 143, 3) := by decide +kernel
theorem dX1_holdCourt_78 : decode cX1_holdCourt 78 = .ok (.aload_n 0, 1) := by decide +kernel
theorem dX1_holdCourt_79 : decode cX1_holdCourt 79 = .ok (.getfield 37, 3) := by decide +kernel
theorem dX1_holdCourt_82 : decode cX1_holdCourt 82 = .ok (.iload 6, 2) := by decide +kernel
theorem dX1_holdCourt_84 : decode cX1_holdCourt 84 = .ok (.invokevirtual 143, 3) := by decide +kernel
theorem dX1_holdCourt_87 : decode cX1_holdCourt 87 = .ok (.iadd, 1) := by decide +kernel
theorem dX1_holdCourt_88 : decode cX1_holdCourt 88 = .ok (.invokevirtual 148, 3) := by decide +kernel
theorem dX1_holdCourt_91 : decode cX1_holdCourt 91 = .ok (.aload_n 0, 1) := by decide +kernel
theorem dX1_holdCourt_92 : decode cX1_holdCourt 92 = .ok (.getfield 33, 3) := by decide +kernel
theorem dX1_holdCourt_95 : decode cX1_holdCourt 95 = .ok (.iload_n 1, 1) := by decide +kernel
theorem dX1_holdCourt_96 : decode cX1_holdCourt 96 = .ok (.iload_n 3, 1) := by decide +kernel
theorem dX1_holdCourt_97 : decode cX1_holdCourt 97 = .ok (.iload 4, 2) := by decide +kernel
theorem dX1_holdCourt_99 : decode cX1_holdCourt 99 = .ok (.invokestatic 151, 3) := by decide +kernel
theorem dX1_holdCourt_102 : decode cX1_holdCourt 102 = .ok (.invokevirtual 68, 3) := by decide +kernel
theorem dX1_holdCourt_105 : decode cX1_holdCourt 105 = .ok (.aload_n 0, 1) := by decide +kernel
theorem dX1_holdCourt_106 : decode cX1_holdCourt 106 = .ok (.getfield 33, 3) := by decide +kernel
theorem dX1_holdCourt_109 : decode cX1_holdCourt 109 = .ok (.iload_n 1, 1) := by decide +kernel
theorem dX1_holdCourt_110 : decode cX1_holdCourt 110 = .ok (.iload_n 3, 1) := by decide +kernel
theorem dX1_holdCourt_111 : decode cX1_holdCourt 111 = .ok (.iload 4, 2) := by decide +kernel
theorem dX1_holdCourt_113 : decode cX1_holdCourt 113 = .ok (.invokestatic 156, 3) := by decide +kernel
theorem dX1_holdCourt_116 : decode cX1_holdCourt 116 = .ok (.invokevirtual 68, 3) := by decide +kernel
theorem dX1_holdCourt_119 : decode cX1_holdCourt 119 = .ok (.aload_n 0, 1) := by decide +kernel
theorem dX1_holdCourt_120 : decode cX1_holdCourt 120 = .ok (.getfield 33, 3) := by decide +kernel
theorem dX1_holdCourt_123 : decode cX1_holdCourt 123 = .ok (.iload_n 1, 1) := by decide +kernel
theorem dX1_holdCourt_124 : decode cX1_holdCourt 124 = .ok (.invokevirtual 71, 3) := by decide +kernel
theorem dX1_holdCourt_127 : decode cX1_holdCourt 127 = .ok (.aload_n 0, 1) := by decide +kernel
theorem dX1_holdCourt_128 : decode cX1_holdCourt 128 = .ok (.iload 5, 2) := by decide +kernel
theorem dX1_holdCourt_130 : decode cX1_holdCourt 130 = .ok (.iload_n 2, 1) := by decide +kernel
theorem dX1_holdCourt_131 : decode cX1_holdCourt 131 = .ok (.invokevirtual 117, 3) := by decide +kernel
theorem dX1_holdCourt_134 : decode cX1_holdCourt 134 = .ok (.aload_n 0, 1) := by decide +kernel
theorem dX1_holdCourt_135 : decode cX1_holdCourt 135 = .ok (.iload 6, 2) := by decide +kernel
theorem dX1_holdCourt_137 : decode cX1_holdCourt 137 = .ok (.iload_n 2, 1) := by decide +kernel
theorem dX1_holdCourt_138 : decode cX1_holdCourt 138 = .ok (.invokevirtual 117, 3) := by decide +kernel
theorem dX1_holdCourt_141 : decode cX1_holdCourt 141 = .ok (.iload_n 1, 1) := by decide +kernel
theorem dX1_holdCourt_142 : decode cX1_holdCourt 142 = .ok (.ireturn, 1) := by decide +kernel
theorem dX1_farthest_0 : decode cX1_farthest 0 = .ok (.aload_n 0, 1) := by decide +kernel
theorem dX1_farthest_1 : decode cX1_farthest 1 = .ok (.getfield 33, 3) := by decide +kernel
theorem dX1_farthest_4 : decode cX1_farthest 4 = .ok (.iload_n 1, 1) := by decide +kernel
theorem dX1_farthest_5 : decode cX1_farthest 5 = .ok (.invokevirtual 98, 3) := by decide +kernel
theorem dX1_farthest_8 : decode cX1_farthest 8 = .ok (.istore_n 3, 1) := by decide +kernel
theorem dX1_farthest_9 : decode cX1_farthest 9 = .ok (.aload_n 0, 1) := by decide +kernel
theorem dX1_farthest_10 : decode cX1_farthest 10 = .ok (.getfield 33, 3) := by decide +kernel
theorem dX1_farthest_13 : decode cX1_farthest 13 = .ok (.getfield 159, 3) := by decide +kernel
theorem dX1_farthest_16 : decode cX1_farthest 16 = .ok (.iload_n 1, 1) := by decide +kernel
theorem dX1_farthest_17 : decode cX1_farthest 17 = .ok (.invokestatic 41, 3) := by decide +kernel
theorem dX1_farthest_20 : decode cX1_farthest 20 = .ok (.istore 4, 2) := by decide +kernel
theorem dX1_farthest_22 : decode cX1_farthest 22 = .ok (.iconst (-1), 1) := by decide +kernel
theorem dX1_farthest_23 : decode cX1_farthest 23 = .ok (.istore 5, 2) := by decide +kernel
theorem dX1_farthest_25 : decode cX1_farthest 25 = .ok (.iconst 0, 1) := by decide +kernel
theorem dX1_farthest_26 : decode cX1_farthest 26 = .ok (.istore 6, 2) := by decide +kernel
theorem dX1_farthest_28 : decode cX1_farthest 28 = .ok (.iconst 0, 1) := by decide +kernel
theorem dX1_farthest_29 : decode cX1_farthest 29 = .ok (.istore 7, 2) := by decide +kernel
theorem dX1_farthest_31 : decode cX1_farthest 31 = .ok (.iload 7, 2) := by decide +kernel
theorem dX1_farthest_33 : decode cX1_farthest 33 = .ok (.aload_n 0, 1) := by decide +kernel
theorem dX1_farthest_34 : decode cX1_farthest 34 = .ok (.getfield 33, 3) := by decide +kernel
theorem dX1_farthest_37 : decode cX1_farthest 37 = .ok (.iload_n 1, 1) := by decide +kernel
theorem dX1_farthest_38 : decode cX1_farthest 38 = .ok (.invokevirtual 95, 3) := by decide +kernel
theorem dX1_farthest_41 : decode cX1_farthest 41 = .ok (.if_icmp .ge 55, 3) := by decide +kernel
theorem dX1_farthest_44 : decode cX1_farthest 44 = .ok (.aload_n 0, 1) := by decide +kernel
theorem dX1_farthest_45 : decode cX1_farthest 45 = .ok (.getfield 33, 3) := by decide +kernel
theorem dX1_farthest_48 : decode cX1_farthest 48 = .ok (.aload_n 0, 1) := by decide +kernel
theorem dX1_farthest_49 : decode cX1_farthest 49 = .ok (.getfield 33, 3) := by decide +kernel
theorem dX1_farthest_52 : decode cX1_farthest 52 = .ok (.iload_n 1, 1) := by decide +kernel
theorem dX1_farthest_53 : decode cX1_farthest 53 = .ok (.iload 7, 2) := by decide +kernel
theorem dX1_farthest_55 : decode cX1_farthest 55 = .ok (.invokevirtual 101, 3) := by decide +kernel
theorem dX1_farthest_58 : decode cX1_farthest 58 = .ok (.iload_n 3, 1) := by decide +kernel
theorem dX1_farthest_59 : decode cX1_farthest 59 = .ok (.invokevirtual 120, 3) := by decide +kernel
theorem dX1_farthest_62 : decode cX1_farthest 62 = .ok (.iload 4, 2) := by decide +kernel
theorem dX1_farthest_64 : decode cX1_farthest 64 = .ok (.invokestatic 160, 3) := by decide +kernel
theorem dX1_farthest_67 : decode cX1_farthest 67 = .ok (.istore 8, 2) := by decide +kernel
theorem dX1_farthest_69 : decode cX1_farthest 69 = .ok (.iload 7, 2) := by decide +kernel
theorem dX1_farthest_71 : decode cX1_farthest 71 = .ok (.iload_n 2, 1) := by decide +kernel
theorem dX1_farthest_72 : decode cX1_farthest 72 = .ok (.if_icmp .eq 18, 3) := by decide +kernel
theorem dX1_farthest_75 : decode cX1_farthest 75 = .ok (.iload 8, 2) := by decide +kernel
theorem dX1_farthest_77 : decode cX1_farthest 77 = .ok (.iload 6, 2) := by decide +kernel
theorem dX1_farthest_79 : decode cX1_farthest 79 = .ok (.if_icmp .lt 11, 3) := by decide +kernel
theorem dX1_farthest_82 : decode cX1_farthest 82 = .ok (.iload 7, 2) := by decide +kernel
theorem dX1_farthest_84 : decode cX1_farthest 84 = .ok (.istore 5, 2) := by decide +kernel
theorem dX1_farthest_86 : decode cX1_farthest 86 = .ok (.iload 8, 2) := by decide +kernel
theorem dX1_farthest_88 : decode cX1_farthest 88 = .ok (.istore 6, 2) := by decide +kernel
theorem dX1_farthest_90 : decode cX1_farthest 90 = .ok (.iinc 7 1, 3) := by decide +kernel
theorem dX1_farthest_93 : decode cX1_farthest 93 = .ok (.goto (-62), 3) := by decide +kernel
theorem dX1_farthest_96 : decode cX1_farthest 96 = .ok (.iload 5, 2) := by decide +kernel
theorem dX1_farthest_98 : decode cX1_farthest 98 = .ok (.ireturn, 1) := by decide +kernel
theorem dX1_noteCourt_0 : decode cX1_noteCourt 0 = .ok (.aload_n 0, 1) := by decide +kernel
theorem dX1_noteCourt_1 : decode cX1_noteCourt 1 = .ok (.getfield 33, 3) := by decide +kernel
theorem dX1_noteCourt_4 : decode cX1_noteCourt 4 = .ok (.dup, 1) := by decide +kernel
theorem dX1_noteCourt_5 : decode cX1_noteCourt 5 = .ok (.getfield 165, 3) := by decide +kernel
theorem dX1_noteCourt_8 : decode cX1_noteCourt 8 = .ok (.iconst 1, 1) := by decide +kernel
theorem dX1_noteCourt_9 : decode cX1_noteCourt 9 = .ok (.iadd, 1) := by decide +kernel
theorem dX1_noteCourt_10 : decode cX1_noteCourt 10 = .ok (.putfield 165, 3) := by decide +kernel
theorem dX1_noteCourt_13 : decode cX1_noteCourt 13 = .ok (.aload_n 0, 1) := by decide +kernel
theorem dX1_noteCourt_14 : decode cX1_noteCourt 14 = .ok (.getfield 47, 3) := by decide +kernel
theorem dX1_noteCourt_17 : decode cX1_noteCourt 17 = .ok (.bipush 64, 2) := by decide +kernel
theorem dX1_noteCourt_19 : decode cX1_noteCourt 19 = .ok (.if_icmp .ge 37, 3) := by decide +kernel
theorem dX1_noteCourt_22 : decode cX1_noteCourt 22 = .ok (.aload_n 0, 1) := by decide +kernel
theorem dX1_noteCourt_23 : decode cX1_noteCourt 23 = .ok (.getfield 18, 3) := by decide +kernel
theorem dX1_noteCourt_26 : decode cX1_noteCourt 26 = .ok (.aload_n 0, 1) := by decide +kernel
theorem dX1_noteCourt_27 : decode cX1_noteCourt 27 = .ok (.getfield 47, 3) := by decide +kernel
theorem dX1_noteCourt_30 : decode cX1_noteCourt 30 = .ok (.iload_n 1, 1) := by decide +kernel
theorem dX1_noteCourt_31 : decode cX1_noteCourt 31 = .ok (.invokestatic 104, 3) := by decide +kernel
theorem dX1_noteCourt_34 : decode cX1_noteCourt 34 = .ok (.aload_n 0, 1) := by decide +kernel
theorem dX1_noteCourt_35 : decode cX1_noteCourt 35 = .ok (.getfield 21, 3) := by decide +kernel
theorem dX1_noteCourt_38 : decode cX1_noteCourt 38 = .ok (.aload_n 0, 1) := by decide +kernel
theorem dX1_noteCourt_39 : decode cX1_noteCourt 39 = .ok (.getfield 47, 3) := by decide +kernel
theorem dX1_noteCourt_42 : decode cX1_noteCourt 42 = .ok (.iload_n 2, 1) := by decide +kernel
theorem dX1_noteCourt_43 : decode cX1_noteCourt 43 = .ok (.invokestatic 104, 3) := by decide +kernel
theorem dX1_noteCourt_46 : decode cX1_noteCourt 46 = .ok (.aload_n 0, 1) := by decide +kernel
theorem dX1_noteCourt_47 : decode cX1_noteCourt 47 = .ok (.dup, 1) := by decide +kernel
theorem dX1_noteCourt_48 : decode cX1_noteCourt 48 = .ok (.getfield 47, 3) := by decide +kernel
theorem dX1_noteCourt_51 : decode cX1_noteCourt 51 = .ok (.iconst 1, 1) := by decide +kernel
theorem dX1_noteCourt_52 : decode cX1_noteCourt 52 = .ok (.iadd, 1) := by decide +kernel
theorem dX1_noteCourt_53 : decode cX1_noteCourt 53 = .ok (.putfield 47, 3) := by decide +kernel
theorem dX1_noteCourt_56 : decode cX1_noteCourt 56 = .ok (.return_, 1) := by decide +kernel
theorem dX1_split_0 : decode cX1_split 0 = .ok (.aload_n 0, 1) := by decide +kernel
theorem dX1_split_1 : decode cX1_split 1 = .ok (.iload_n 1, 1) := by decide +kernel
theorem dX1_split_2 : decode cX1_split 2 = .ok (.invokevirtual 166, 3) := by decide +kernel
theorem dX1_split_5 : decode cX1_split 5 = .ok (.istore_n 2, 1) := by decide +kernel
theorem dX1_split_6 : decode cX1_split 6 = .ok (.iload_n 2, 1) := by decide +kernel
theorem dX1_split_7 : decode cX1_split 7 = .ok (.invokestatic 169, 3) := by decide +kernel
theorem dX1_split_10 : decode cX1_split 10 = .ok (.istore_n 3, 1) := by decide +kernel
theorem dX1_split_11 : decode cX1_split 11 = .ok (.aload_n 0, 1) := by decide +kernel
theorem dX1_split_12 : decode cX1_split 12 = .ok (.iload_n 1, 1) := by decide +kernel
theorem dX1_split_13 : decode cX1_split 13 = .ok (.iload_n 2, 1) := by decide +kernel
theorem dX1_split_14 : decode cX1_split 14 = .ok (.invokestatic 172, 3) := by decide +kernel
theorem dX1_split_17 : decode cX1_split 17 = .ok (.invokevirtual 175, 3) := by decide +kernel
theorem dX1_split_20 : decode cX1_split 20 = .ok (.aload_n 0, 1) := by decide +kernel
theorem dX1_split_21 : decode cX1_split 21 = .ok (.getfield 33, 3) := by decide +kernel
theorem dX1_split_24 : decode cX1_split 24 = .ok (.aload_n 0, 1) := by decide +kernel
theorem dX1_split_25 : decode cX1_split 25 = .ok (.getfield 33, 3) := by decide +kernel
theorem dX1_split_28 : decode cX1_split 28 = .ok (.iload_n 1, 1) := by decide +kernel
theorem dX1_split_29 : decode cX1_split 29 = .ok (.invokevirtual 98, 3) := by decide +kernel
theorem dX1_split_32 : decode cX1_split 32 = .ok (.invokevirtual 178, 3) := by decide +kernel
theorem dX1_split_35 : decode cX1_split 35 = .ok (.istore 4, 2) := by decide +kernel
theorem dX1_split_37 : decode cX1_split 37 = .ok (.aload_n 0, 1) := by decide +kernel
theorem dX1_split_38 : decode cX1_split 38 = .ok (.getfield 33, 3) := by decide +kernel
theorem dX1_split_41 : decode cX1_split 41 = .ok (.iload_n 1, 1) := by decide +kernel
theorem dX1_split_42 : decode cX1_split 42 = .ok (.invokevirtual 181, 3) := by decide +kernel
theorem dX1_split_45 : decode cX1_split 45 = .ok (.iconst 0, 1) := by decide +kernel
theorem dX1_split_46 : decode cX1_split 46 = .ok (.istore 5, 2) := by decide +kernel
theorem dX1_split_48 : decode cX1_split 48 = .ok (.iload 5, 2) := by decide +kernel
theorem dX1_split_50 : decode cX1_split 50 = .ok (.iconst 5, 1) := by decide +kernel
theorem dX1_split_51 : decode cX1_split 51 = .ok (.if_icmp .ge 50, 3) := by decide +kernel
theorem dX1_split_54 : decode cX1_split 54 = .ok (.iload 5, 2) := by decide +kernel
theorem dX1_split_56 : decode cX1_split 56 = .ok (.iload_n 3, 1) := by decide +kernel
theorem dX1_split_57 : decode cX1_split 57 = .ok (.if_icmp .ge 7, 3) := by decide +kernel
theorem dX1_split_60 : decode cX1_split 60 = .ok (.iload_n 1, 1) := by decide +kernel
theorem dX1_split_61 : decode cX1_split 61 = .ok (.goto 5, 3) := by decide +kernel
theorem dX1_split_64 : decode cX1_split 64 = .ok (.iload 4, 2) := by decide +kernel
theorem dX1_split_66 : decode cX1_split 66 = .ok (.istore 6, 2) := by decide +kernel
theorem dX1_split_68 : decode cX1_split 68 = .ok (.aload_n 0, 1) := by decide +kernel
theorem dX1_split_69 : decode cX1_split 69 = .ok (.getfield 33, 3) := by decide +kernel
theorem dX1_split_72 : decode cX1_split 72 = .ok (.iload 6, 2) := by decide +kernel
theorem dX1_split_74 : decode cX1_split 74 = .ok (.aload_n 0, 1) := by decide +kernel
theorem dX1_split_75 : decode cX1_split 75 = .ok (.getfield 33, 3) := by decide +kernel
theorem dX1_split_78 : decode cX1_split 78 = .ok (.iload 6, 2) := by decide +kernel
theorem dX1_split_80 : decode cX1_split 80 = .ok (.invokevirtual 95, 3) := by decide +kernel
theorem dX1_split_83 : decode cX1_split 83 = .ok (.aload_n 0, 1) := by decide +kernel
theorem dX1_split_84 : decode cX1_split 84 = .ok (.getfield 27, 3) := by decide +kernel
theorem dX1_split_87 : decode cX1_split 87 = .ok (.iload 5, 2) := by decide +kernel
theorem dX1_split_89 : decode cX1_split 89 = .ok (.invokestatic 41, 3) := by decide +kernel
theorem dX1_split_92 : decode cX1_split 92 = .ok (.invokevirtual 126, 3) := by decide +kernel
theorem dX1_split_95 : decode cX1_split 95 = .ok (.iinc 5 1, 3) := by decide +kernel
theorem dX1_split_98 : decode cX1_split 98 = .ok (.goto (-50), 3) := by decide +kernel
theorem dX1_split_101 : decode cX1_split 101 = .ok (.iload_n 1, 1) := by decide +kernel
theorem dX1_split_102 : decode cX1_split 102 = .ok (.aload_n 0, 1) := by decide +kernel
theorem dX1_split_103 : decode cX1_split 103 = .ok (.getfield 33, 3) := by decide +kernel
theorem dX1_split_106 : decode cX1_split 106 = .ok (.getfield 89, 3) := by decide +kernel
theorem dX1_split_109 : decode cX1_split 109 = .ok (.if_icmp .ne 10, 3) := by decide +kernel
theorem dX1_split_112 : decode cX1_split 112 = .ok (.aload_n 0, 1) := by decide +kernel
theorem dX1_split_113 : decode cX1_split 113 = .ok (.getfield 33, 3) := by decide +kernel
theorem dX1_split_116 : decode cX1_split 116 = .ok (.invokevirtual 184, 3) := by decide +kernel
theorem dX1_split_119 : decode cX1_split 119 = .ok (.aload_n 0, 1) := by decide +kernel
theorem dX1_split_120 : decode cX1_split 120 = .ok (.getfield 33, 3) := by decide +kernel
theorem dX1_split_123 : decode cX1_split 123 = .ok (.iload_n 1, 1) := by decide +kernel
theorem dX1_split_124 : decode cX1_split 124 = .ok (.invokevirtual 92, 3) := by decide +kernel
theorem dX1_split_127 : decode cX1_split 127 = .ok (.istore 5, 2) := by decide +kernel
theorem dX1_split_129 : decode cX1_split 129 = .ok (.aload_n 0, 1) := by decide +kernel
theorem dX1_split_130 : decode cX1_split 130 = .ok (.getfield 33, 3) := by decide +kernel
theorem dX1_split_133 : decode cX1_split 133 = .ok (.iload 5, 2) := by decide +kernel
theorem dX1_split_135 : decode cX1_split 135 = .ok (.aload_n 0, 1) := by decide +kernel
theorem dX1_split_136 : decode cX1_split 136 = .ok (.getfield 33, 3) := by decide +kernel
theorem dX1_split_139 : decode cX1_split 139 = .ok (.iload 5, 2) := by decide +kernel
theorem dX1_split_141 : decode cX1_split 141 = .ok (.iload_n 1, 1) := by decide +kernel
theorem dX1_split_142 : decode cX1_split 142 = .ok (.invokevirtual 64, 3) := by decide +kernel
theorem dX1_split_145 : decode cX1_split 145 = .ok (.iconst 1, 1) := by decide +kernel
theorem dX1_split_146 : decode cX1_split 146 = .ok (.iadd, 1) := by decide +kernel
theorem dX1_split_147 : decode cX1_split 147 = .ok (.iload 4, 2) := by decide +kernel
theorem dX1_split_149 : decode cX1_split 149 = .ok (.invokevirtual 126, 3) := by decide +kernel
theorem dX1_split_152 : decode cX1_split 152 = .ok (.aload_n 0, 1) := by decide +kernel
theorem dX1_split_153 : decode cX1_split 153 = .ok (.getfield 33, 3) := by decide +kernel
theorem dX1_split_156 : decode cX1_split 156 = .ok (.iload_n 1, 1) := by decide +kernel
theorem dX1_split_157 : decode cX1_split 157 = .ok (.invokevirtual 71, 3) := by decide +kernel
theorem dX1_split_160 : decode cX1_split 160 = .ok (.aload_n 0, 1) := by decide +kernel
theorem dX1_split_161 : decode cX1_split 161 = .ok (.getfield 33, 3) := by decide +kernel
theorem dX1_split_164 : decode cX1_split 164 = .ok (.iload 4, 2) := by decide +kernel
theorem dX1_split_166 : decode cX1_split 166 = .ok (.invokevirtual 71, 3) := by decide +kernel
theorem dX1_split_169 : decode cX1_split 169 = .ok (.aload_n 0, 1) := by decide +kernel
theorem dX1_split_170 : decode cX1_split 170 = .ok (.getfield 33, 3) := by decide +kernel
theorem dX1_split_173 : decode cX1_split 173 = .ok (.dup, 1) := by decide +kernel
theorem dX1_split_174 : decode cX1_split 174 = .ok (.getfield 187, 3) := by decide +kernel
theorem dX1_split_177 : decode cX1_split 177 = .ok (.iconst 1, 1) := by decide +kernel
theorem dX1_split_178 : decode cX1_split 178 = .ok (.iadd, 1) := by decide +kernel
theorem dX1_split_179 : decode cX1_split 179 = .ok (.putfield 187, 3) := by decide +kernel
theorem dX1_split_182 : decode cX1_split 182 = .ok (.iload 5, 2) := by decide +kernel
theorem dX1_split_184 : decode cX1_split 184 = .ok (.ireturn, 1) := by decide +kernel
theorem dX1_axisOf_0 : decode cX1_axisOf 0 = .ok (.iload_n 0, 1) := by decide +kernel
theorem dX1_axisOf_1 : decode cX1_axisOf 1 = .ok (.iconst 1, 1) := by decide +kernel
theorem dX1_axisOf_2 : decode cX1_axisOf 2 = .ok (.ishr, 1) := by decide +kernel
theorem dX1_axisOf_3 : decode cX1_axisOf 3 = .ok (.ireturn, 1) := by decide +kernel
theorem dX1_cutOf_0 : decode cX1_cutOf 0 = .ok (.iconst 2, 1) := by decide +kernel
theorem dX1_cutOf_1 : decode cX1_cutOf 1 = .ok (.iload_n 0, 1) := by decide +kernel
theorem dX1_cutOf_2 : decode cX1_cutOf 2 = .ok (.iconst 1, 1) := by decide +kernel
theorem dX1_cutOf_3 : decode cX1_cutOf 3 = .ok (.iand, 1) := by decide +kernel
theorem dX1_cutOf_4 : decode cX1_cutOf 4 = .ok (.iadd, 1) := by decide +kernel
theorem dX1_cutOf_5 : decode cX1_cutOf 5 = .ok (.ireturn, 1) := by decide +kernel
theorem dX1_bestWay_0 : decode cX1_bestWay 0 = .ok (.iconst (-1), 1) := by decide +kernel
theorem dX1_bestWay_1 : decode cX1_bestWay 1 = .ok (.istore_n 2, 1) := by decide +kernel
theorem dX1_bestWay_2 : decode cX1_bestWay 2 = .ok (.iconst 0, 1) := by decide +kernel
theorem dX1_bestWay_3 : decode cX1_bestWay 3 = .ok (.istore_n 3, 1) := by decide +kernel
theorem dX1_bestWay_4 : decode cX1_bestWay 4 = .ok (.iconst 0, 1) := by decide +kernel
theorem dX1_bestWay_5 : decode cX1_bestWay 5 = .ok (.istore 4, 2) := by decide +kernel
theorem dX1_bestWay_7 : decode cX1_bestWay 7 = .ok (.iconst 0, 1) := by decide +kernel
theorem dX1_bestWay_8 : decode cX1_bestWay 8 = .ok (.istore 5, 2) := by decide +kernel
theorem dX1_bestWay_10 : decode cX1_bestWay 10 = .ok (.iload 5, 2) := by decide +kernel
theorem dX1_bestWay_12 : decode cX1_bestWay 12 = .ok (.iconst 4, 1) := by decide +kernel
theorem dX1_bestWay_13 : decode cX1_bestWay 13 = .ok (.if_icmp .ge 99, 3) := by decide +kernel
theorem dX1_bestWay_16 : decode cX1_bestWay 16 = .ok (.aload_n 0, 1) := by decide +kernel
theorem dX1_bestWay_17 : decode cX1_bestWay 17 = .ok (.iload_n 1, 1) := by decide +kernel
theorem dX1_bestWay_18 : decode cX1_bestWay 18 = .ok (.iload 5, 2) := by decide +kernel
theorem dX1_bestWay_20 : decode cX1_bestWay 20 = .ok (.invokestatic 172, 3) := by decide +kernel
theorem dX1_bestWay_23 : decode cX1_bestWay 23 = .ok (.invokevirtual 175, 3) := by decide +kernel
theorem dX1_bestWay_26 : decode cX1_bestWay 26 = .ok (.aload_n 0, 1) := by decide +kernel
theorem dX1_bestWay_27 : decode cX1_bestWay 27 = .ok (.iconst 0, 1) := by decide +kernel
theorem dX1_bestWay_28 : decode cX1_bestWay 28 = .ok (.iload 5, 2) := by decide +kernel
theorem dX1_bestWay_30 : decode cX1_bestWay 30 = .ok (.invokestatic 169, 3) := by decide +kernel
theorem dX1_bestWay_33 : decode cX1_bestWay 33 = .ok (.invokevirtual 190, 3) := by decide +kernel
theorem dX1_bestWay_36 : decode cX1_bestWay 36 = .ok (.istore 6, 2) := by decide +kernel
theorem dX1_bestWay_38 : decode cX1_bestWay 38 = .ok (.aload_n 0, 1) := by decide +kernel
theorem dX1_bestWay_39 : decode cX1_bestWay 39 = .ok (.iload 5, 2) := by decide +kernel
theorem dX1_bestWay_41 : decode cX1_bestWay 41 = .ok (.invokestatic 169, 3) := by decide +kernel
theorem dX1_bestWay_44 : decode cX1_bestWay 44 = .ok (.iconst 5, 1) := by decide +kernel
theorem dX1_bestWay_45 : decode cX1_bestWay 45 = .ok (.invokevirtual 190, 3) := by decide +kernel
theorem dX1_bestWay_48 : decode cX1_bestWay 48 = .ok (.istore 7, 2) := by decide +kernel
theorem dX1_bestWay_50 : decode cX1_bestWay 50 = .ok (.iload 6, 2) := by decide +kernel
theorem dX1_bestWay_52 : decode cX1_bestWay 52 = .ok (.iload 7, 2) := by decide +kernel
theorem dX1_bestWay_54 : decode cX1_bestWay 54 = .ok (.invokestatic 193, 3) := by decide +kernel
theorem dX1_bestWay_57 : decode cX1_bestWay 57 = .ok (.istore 8, 2) := by decide +kernel
theorem dX1_bestWay_59 : decode cX1_bestWay 59 = .ok (.iload 6, 2) := by decide +kernel
theorem dX1_bestWay_61 : decode cX1_bestWay 61 = .ok (.invokestatic 196, 3) := by decide +kernel
theorem dX1_bestWay_64 : decode cX1_bestWay 64 = .ok (.iload 7, 2) := by decide +kernel
theorem dX1_bestWay_66 : decode cX1_bestWay 66 = .ok (.invokestatic 196, 3) := by decide +kernel
theorem dX1_bestWay_69 : decode cX1_bestWay 69 = .ok (.iadd, 1) := by decide +kernel
theorem dX1_bestWay_70 : decode cX1_bestWay 70 = .ok (.istore 9, 2) := by decide +kernel
theorem dX1_bestWay_72 : decode cX1_bestWay 72 = .ok (.iload_n 2, 1) := by decide +kernel
theorem dX1_bestWay_73 : decode cX1_bestWay 73 = .ok (.iconst (-1), 1) := by decide +kernel
theorem dX1_bestWay_74 : decode cX1_bestWay 74 = .ok (.if_icmp .eq 22, 3) := by decide +kernel
theorem dX1_bestWay_77 : decode cX1_bestWay 77 = .ok (.iload 8, 2) := by decide +kernel
theorem dX1_bestWay_79 : decode cX1_bestWay 79 = .ok (.iload_n 3, 1) := by decide +kernel
theorem dX1_bestWay_80 : decode cX1_bestWay 80 = .ok (.if_icmp .lt 16, 3) := by decide +kernel
theorem dX1_bestWay_83 : decode cX1_bestWay 83 = .ok (.iload 8, 2) := by decide +kernel
theorem dX1_bestWay_85 : decode cX1_bestWay 85 = .ok (.iload_n 3, 1) := by decide +kernel
theorem dX1_bestWay_86 : decode cX1_bestWay 86 = .ok (.if_icmp .ne 20, 3) := by decide +kernel
theorem dX1_bestWay_89 : decode cX1_bestWay 89 = .ok (.iload 9, 2) := by decide +kernel
theorem dX1_bestWay_91 : decode cX1_bestWay 91 = .ok (.iload 4, 2) := by decide +kernel
theorem dX1_bestWay_93 : decode cX1_bestWay 93 = .ok (.if_icmp .ge 13, 3) := by decide +kernel
theorem dX1_bestWay_96 : decode cX1_bestWay 96 = .ok (.iload 5, 2) := by decide +kernel
theorem dX1_bestWay_98 : decode cX1_bestWay 98 = .ok (.istore_n 2, 1) := by decide +kernel
theorem dX1_bestWay_99 : decode cX1_bestWay 99 = .ok (.iload 8, 2) := by decide +kernel
theorem dX1_bestWay_101 : decode cX1_bestWay 101 = .ok (.istore_n 3, 1) := by decide +kernel
theorem dX1_bestWay_102 : decode cX1_bestWay 102 = .ok (.iload 9, 2) := by decide +kernel
theorem dX1_bestWay_104 : decode cX1_bestWay 104 = .ok (.istore 4, 2) := by decide +kernel
theorem dX1_bestWay_106 : decode cX1_bestWay 106 = .ok (.iinc 5 1, 3) := by decide +kernel
theorem dX1_bestWay_109 : decode cX1_bestWay 109 = .ok (.goto (-99), 3) := by decide +kernel
theorem dX1_bestWay_112 : decode cX1_bestWay 112 = .ok (.iload_n 2, 1) := by decide +kernel
theorem dX1_bestWay_113 : decode cX1_bestWay 113 = .ok (.ireturn, 1) := by decide +kernel
theorem dX1_hullOfPart_0 : decode cX1_hullOfPart 0 = .ok (.iconst (-1), 1) := by decide +kernel
theorem dX1_hullOfPart_1 : decode cX1_hullOfPart 1 = .ok (.istore_n 3, 1) := by decide +kernel
theorem dX1_hullOfPart_2 : decode cX1_hullOfPart 2 = .ok (.iload_n 1, 1) := by decide +kernel
theorem dX1_hullOfPart_3 : decode cX1_hullOfPart 3 = .ok (.istore 4, 2) := by decide +kernel
theorem dX1_hullOfPart_5 : decode cX1_hullOfPart 5 = .ok (.iload 4, 2) := by decide +kernel
theorem dX1_hullOfPart_7 : decode cX1_hullOfPart 7 = .ok (.iload_n 2, 1) := by decide +kernel
theorem dX1_hullOfPart_8 : decode cX1_hullOfPart 8 = .ok (.if_icmp .ge 23, 3) := by decide +kernel
theorem dX1_hullOfPart_11 : decode cX1_hullOfPart 11 = .ok (.iload_n 3, 1) := by decide +kernel
theorem dX1_hullOfPart_12 : decode cX1_hullOfPart 12 = .ok (.aload_n 0, 1) := by decide +kernel
theorem dX1_hullOfPart_13 : decode cX1_hullOfPart 13 = .ok (.getfield 30, 3) := by decide +kernel
theorem dX1_hullOfPart_16 : decode cX1_hullOfPart 16 = .ok (.iload 4, 2) := by decide +kernel
theorem dX1_hullOfPart_18 : decode cX1_hullOfPart 18 = .ok (.invokestatic 41, 3) := by decide +kernel
theorem dX1_hullOfPart_21 : decode cX1_hullOfPart 21 = .ok (.invokestatic 199, 3) := by decide +kernel
theorem dX1_hullOfPart_24 : decode cX1_hullOfPart 24 = .ok (.istore_n 3, 1) := by decide +kernel
theorem dX1_hullOfPart_25 : decode cX1_hullOfPart 25 = .ok (.iinc 4 1, 3) := by decide +kernel
theorem dX1_hullOfPart_28 : decode cX1_hullOfPart 28 = .ok (.goto (-23), 3) := by decide +kernel
theorem dX1_hullOfPart_31 : decode cX1_hullOfPart 31 = .ok (.iload_n 3, 1) := by decide +kernel
theorem dX1_hullOfPart_32 : decode cX1_hullOfPart 32 = .ok (.ireturn, 1) := by decide +kernel
theorem dX1_arrange_0 : decode cX1_arrange 0 = .ok (.aload_n 0, 1) := by decide +kernel
theorem dX1_arrange_1 : decode cX1_arrange 1 = .ok (.getfield 33, 3) := by decide +kernel
theorem dX1_arrange_4 : decode cX1_arrange 4 = .ok (.iload_n 1, 1) := by decide +kernel
theorem dX1_arrange_5 : decode cX1_arrange 5 = .ok (.invokevirtual 98, 3) := by decide +kernel
theorem dX1_arrange_8 : decode cX1_arrange 8 = .ok (.istore_n 3, 1) := by decide +kernel
theorem dX1_arrange_9 : decode cX1_arrange 9 = .ok (.iconst 0, 1) := by decide +kernel
theorem dX1_arrange_10 : decode cX1_arrange 10 = .ok (.istore 4, 2) := by decide +kernel
theorem dX1_arrange_12 : decode cX1_arrange 12 = .ok (.iload 4, 2) := by decide +kernel
theorem dX1_arrange_14 : decode cX1_arrange 14 = .ok (.iconst 5, 1) := by decide +kernel
theorem dX1_arrange_15 : decode cX1_arrange 15 = .ok (.if_icmp .ge 134, 3) := by decide +kernel
theorem dX1_arrange_18 : decode cX1_arrange 18 = .ok (.aload_n 0, 1) := by decide +kernel
theorem dX1_arrange_19 : decode cX1_arrange 19 = .ok (.getfield 33, 3) := by decide +kernel
theorem dX1_arrange_22 : decode cX1_arrange 22 = .ok (.iload_n 1, 1) := by decide +kernel
theorem dX1_arrange_23 : decode cX1_arrange 23 = .ok (.iload 4, 2) := by decide +kernel
theorem dX1_arrange_25 : decode cX1_arrange 25 = .ok (.invokevirtual 101, 3) := by decide +kernel
theorem dX1_arrange_28 : decode cX1_arrange 28 = .ok (.istore 5, 2) := by decide +kernel
theorem dX1_arrange_30 : decode cX1_arrange 30 = .ok (.aload_n 0, 1) := by decide +kernel
theorem dX1_arrange_31 : decode cX1_arrange 31 = .ok (.getfield 33, 3) := by decide +kernel
theorem dX1_arrange_34 : decode cX1_arrange 34 = .ok (.iload 5, 2) := by decide +kernel
theorem dX1_arrange_36 : decode cX1_arrange 36 = .ok (.iload_n 3, 1) := by decide +kernel
theorem dX1_arrange_37 : decode cX1_arrange 37 = .ok (.invokevirtual 120, 3) := by decide +kernel
theorem dX1_arrange_40 : decode cX1_arrange 40 = .ok (.istore 6, 2) := by decide +kernel
theorem dX1_arrange_42 : decode cX1_arrange 42 = .ok (.iload 4, 2) := by decide +kernel
theorem dX1_arrange_44 : decode cX1_arrange 44 = .ok (.istore 7, 2) := by decide +kernel
theorem dX1_arrange_46 : decode cX1_arrange 46 = .ok (.iload 7, 2) := by decide +kernel
theorem dX1_arrange_48 : decode cX1_arrange 48 = .ok (.ifCond .le 73, 3) := by decide +kernel
theorem dX1_arrange_51 : decode cX1_arrange 51 = .ok (.aload_n 0, 1) := by decide +kernel
theorem dX1_arrange_52 : decode cX1_arrange 52 = .ok (.getfield 30, 3) := by decide +kernel
theorem dX1_arrange_55 : decode cX1_arrange 55 = .ok (.iload 7, 2) := by decide +kernel
theorem dX1_arrange_57 : decode cX1_arrange 57 = .ok (.iconst 1, 1) := by decide +kernel
theorem dX1_arrange_58 : decode cX1_arrange 58 = .ok (.isub, 1) := by decide +kernel
theorem dX1_arrange_59 : decode cX1_arrange 59 = .ok (.invokestatic 41, 3) := by decide +kernel
theorem dX1_arrange_62 : decode cX1_arrange 62 = .ok (.iload_n 2, 1) := by decide +kernel
theorem dX1_arrange_63 : decode cX1_arrange 63 = .ok (.invokestatic 202, 3) := by decide +kernel
theorem dX1_arrange_66 : decode cX1_arrange 66 = .ok (.iload 6, 2) := by decide +kernel
theorem dX1_arrange_68 : decode cX1_arrange 68 = .ok (.iload_n 2, 1) := by decide +kernel
theorem dX1_arrange_69 : decode cX1_arrange 69 = .ok (.invokestatic 202, 3) := by decide +kernel
theorem dX1_arrange_72 : decode cX1_arrange 72 = .ok (.if_icmp .le 49, 3) := by decide +kernel
theorem dX1_arrange_75 : decode cX1_arrange 75 = .ok (.aload_n 0, 1) := by decide +kernel
theorem dX1_arrange_76 : decode cX1_arrange 76 = .ok (.getfield 27, 3) := by decide +kernel
theorem dX1_arrange_79 : decode cX1_arrange 79 = .ok (.iload 7, 2) := by decide +kernel
theorem dX1_arrange_81 : decode cX1_arrange 81 = .ok (.aload_n 0, 1) := by decide +kernel
theorem dX1_arrange_82 : decode cX1_arrange 82 = .ok (.getfield 27, 3) := by decide +kernel
theorem dX1_arrange_85 : decode cX1_arrange 85 = .ok (.iload 7, 2) := by decide +kernel
theorem dX1_arrange_87 : decode cX1_arrange 87 = .ok (.iconst 1, 1) := by decide +kernel
theorem dX1_arrange_88 : decode cX1_arrange 88 = .ok (.isub, 1) := by decide +kernel
theorem dX1_arrange_89 : decode cX1_arrange 89 = .ok (.invokestatic 41, 3) := by decide +kernel
theorem dX1_arrange_92 : decode cX1_arrange 92 = .ok (.invokestatic 104, 3) := by decide +kernel
theorem dX1_arrange_95 : decode cX1_arrange 95 = .ok (.aload_n 0, 1) := by decide +kernel
theorem dX1_arrange_96 : decode cX1_arrange 96 = .ok (.getfield 30, 3) := by decide +kernel
theorem dX1_arrange_99 : decode cX1_arrange 99 = .ok (.iload 7, 2) := by decide +kernel
theorem dX1_arrange_101 : decode cX1_arrange 101 = .ok (.aload_n 0, 1) := by decide +kernel
theorem dX1_arrange_102 : decode cX1_arrange 102 = .ok (.getfield 30, 3) := by decide +kernel
theorem dX1_arrange_105 : decode cX1_arrange 105 = .ok (.iload 7, 2) := by decide +kernel
theorem dX1_arrange_107 : decode cX1_arrange 107 = .ok (.iconst 1, 1) := by decide +kernel
theorem dX1_arrange_108 : decode cX1_arrange 108 = .ok (.isub, 1) := by decide +kernel
theorem dX1_arrange_109 : decode cX1_arrange 109 = .ok (.invokestatic 41, 3) := by decide +kernel
theorem dX1_arrange_112 : decode cX1_arrange 112 = .ok (.invokestatic 104, 3) := by decide +kernel
theorem dX1_arrange_115 : decode cX1_arrange 115 = .ok (.iinc 7 (-1), 3) := by decide +kernel
theorem dX1_arrange_118 : decode cX1_arrange 118 = .ok (.goto (-72), 3) := by decide +kernel
theorem dX1_arrange_121 : decode cX1_arrange 121 = .ok (.aload_n 0, 1) := by decide +kernel
theorem dX1_arrange_122 : decode cX1_arrange 122 = .ok (.getfield 27, 3) := by decide +kernel
theorem dX1_arrange_125 : decode cX1_arrange 125 = .ok (.iload 7, 2) := by decide +kernel
theorem dX1_arrange_127 : decode cX1_arrange 127 = .ok (.iload 5, 2) := by decide +kernel
theorem dX1_arrange_129 : decode cX1_arrange 129 = .ok (.invokestatic 104, 3) := by decide +kernel
theorem dX1_arrange_132 : decode cX1_arrange 132 = .ok (.aload_n 0, 1) := by decide +kernel
theorem dX1_arrange_133 : decode cX1_arrange 133 = .ok (.getfield 30, 3) := by decide +kernel
theorem dX1_arrange_136 : decode cX1_arrange 136 = .ok (.iload 7, 2) := by decide +kernel
theorem dX1_arrange_138 : decode cX1_arrange 138 = .ok (.iload 6, 2) := by decide +kernel
theorem dX1_arrange_140 : decode cX1_arrange 140 = .ok (.invokestatic 104, 3) := by decide +kernel
theorem dX1_arrange_143 : decode cX1_arrange 143 = .ok (.iinc 4 1, 3) := by decide +kernel
theorem dX1_arrange_146 : decode cX1_arrange 146 = .ok (.goto (-134), 3) := by decide +kernel
theorem dX1_arrange_149 : decode cX1_arrange 149 = .ok (.return_, 1) := by decide +kernel
theorem dX2_init_0 : decode cX2_init 0 = .ok (.aload_n 0, 1) := by decide +kernel
theorem dX2_init_1 : decode cX2_init 1 = .ok (.invokespecial 3, 3) := by decide +kernel
theorem dX2_init_4 : decode cX2_init 4 = .ok (.aload_n 0, 1) := by decide +kernel
theorem dX2_init_5 : decode cX2_init 5 = .ok (.iconst 4, 1) := by decide +kernel
theorem dX2_init_6 : decode cX2_init 6 = .ok (.anewarray 9, 3) := by decide +kernel
theorem dX2_init_9 : decode cX2_init 9 = .ok (.putfield 11, 3) := by decide +kernel
theorem dX2_init_12 : decode cX2_init 12 = .ok (.iconst 0, 1) := by decide +kernel
theorem dX2_init_13 : decode cX2_init 13 = .ok (.istore_n 1, 1) := by decide +kernel
theorem dX2_init_14 : decode cX2_init 14 = .ok (.iload_n 1, 1) := by decide +kernel
theorem dX2_init_15 : decode cX2_init 15 = .ok (.aload_n 0, 1) := by decide +kernel
theorem dX2_init_16 : decode cX2_init 16 = .ok (.getfield 11, 3) := by decide +kernel
theorem dX2_init_19 : decode cX2_init 19 = .ok (.arraylength, 1) := by decide +kernel
theorem dX2_init_20 : decode cX2_init 20 = .ok (.if_icmp .ge 22, 3) := by decide +kernel
theorem dX2_init_23 : decode cX2_init 23 = .ok (.aload_n 0, 1) := by decide +kernel
theorem dX2_init_24 : decode cX2_init 24 = .ok (.getfield 11, 3) := by decide +kernel
theorem dX2_init_27 : decode cX2_init 27 = .ok (.iload_n 1, 1) := by decide +kernel
theorem dX2_init_28 : decode cX2_init 28 = .ok (.new 9, 3) := by decide +kernel
theorem dX2_init_31 : decode cX2_init 31 = .ok (.dup, 1) := by decide +kernel
theorem dX2_init_32 : decode cX2_init 32 = .ok (.invokespecial 17, 3) := by decide +kernel
theorem dX2_init_35 : decode cX2_init 35 = .ok (.aastore, 1) := by decide +kernel
theorem dX2_init_36 : decode cX2_init 36 = .ok (.iinc 1 1, 3) := by decide +kernel
theorem dX2_init_39 : decode cX2_init 39 = .ok (.goto (-25), 3) := by decide +kernel
theorem dX2_init_42 : decode cX2_init 42 = .ok (.return_, 1) := by decide +kernel
theorem dX2_record_0 : decode cX2_record 0 = .ok (.aload_n 0, 1) := by decide +kernel
theorem dX2_record_1 : decode cX2_record 1 = .ok (.getfield 18, 3) := by decide +kernel
theorem dX2_record_4 : decode cX2_record 4 = .ok (.iconst 4, 1) := by decide +kernel
theorem dX2_record_5 : decode cX2_record 5 = .ok (.if_icmp .ne 25, 3) := by decide +kernel
theorem dX2_record_8 : decode cX2_record 8 = .ok (.aload_n 0, 1) := by decide +kernel
theorem dX2_record_9 : decode cX2_record 9 = .ok (.aload_n 0, 1) := by decide +kernel
theorem dX2_record_10 : decode cX2_record 10 = .ok (.getfield 22, 3) := by decide +kernel
theorem dX2_record_13 : decode cX2_record 13 = .ok (.iconst 1, 1) := by decide +kernel
theorem dX2_record_14 : decode cX2_record 14 = .ok (.iadd, 1) := by decide +kernel
theorem dX2_record_15 : decode cX2_record 15 = .ok (.iconst 4, 1) := by decide +kernel
theorem dX2_record_16 : decode cX2_record 16 = .ok (.irem, 1) := by decide +kernel
theorem dX2_record_17 : decode cX2_record 17 = .ok (.putfield 22, 3) := by decide +kernel
theorem dX2_record_20 : decode cX2_record 20 = .ok (.aload_n 0, 1) := by decide +kernel
theorem dX2_record_21 : decode cX2_record 21 = .ok (.dup, 1) := by decide +kernel
theorem dX2_record_22 : decode cX2_record 22 = .ok (.getfield 18, 3) := by decide +kernel
theorem dX2_record_25 : decode cX2_record 25 = .ok (.iconst 1, 1) := by decide +kernel
theorem dX2_record_26 : decode cX2_record 26 = .ok (.isub, 1) := by decide +kernel
theorem dX2_record_27 : decode cX2_record 27 = .ok (.putfield 18, 3) := by decide +kernel
theorem dX2_record_30 : decode cX2_record 30 = .ok (.aload_n 0, 1) := by decide +kernel
theorem dX2_record_31 : decode cX2_record 31 = .ok (.aload_n 0, 1) := by decide +kernel
theorem dX2_record_32 : decode cX2_record 32 = .ok (.getfield 18, 3) := by decide +kernel
theorem dX2_record_35 : decode cX2_record 35 = .ok (.invokevirtual 25, 3) := by decide +kernel
theorem dX2_record_38 : decode cX2_record 38 = .ok (.astore_n 2, 1) := by decide +kernel
theorem dX2_record_39 : decode cX2_record 39 = .ok (.aload_n 2, 1) := by decide +kernel
theorem dX2_record_40 : decode cX2_record 40 = .ok (.ifnull 18, 3) := by decide +kernel
theorem dX2_record_43 : decode cX2_record 43 = .ok (.aload_n 2, 1) := by decide +kernel
theorem dX2_record_44 : decode cX2_record 44 = .ok (.aload_n 1, 1) := by decide +kernel
theorem dX2_record_45 : decode cX2_record 45 = .ok (.invokevirtual 29, 3) := by decide +kernel
theorem dX2_record_48 : decode cX2_record 48 = .ok (.aload_n 0, 1) := by decide +kernel
theorem dX2_record_49 : decode cX2_record 49 = .ok (.dup, 1) := by decide +kernel
theorem dX2_record_50 : decode cX2_record 50 = .ok (.getfield 18, 3) := by decide +kernel
theorem dX2_record_53 : decode cX2_record 53 = .ok (.iconst 1, 1) := by decide +kernel
theorem dX2_record_54 : decode cX2_record 54 = .ok (.iadd, 1) := by decide +kernel
theorem dX2_record_55 : decode cX2_record 55 = .ok (.putfield 18, 3) := by decide +kernel
theorem dX2_record_58 : decode cX2_record 58 = .ok (.return_, 1) := by decide +kernel
theorem dX2_restore_0 : decode cX2_restore 0 = .ok (.aload_n 0, 1) := by decide +kernel
theorem dX2_restore_1 : decode cX2_restore 1 = .ok (.aload_n 0, 1) := by decide +kernel
theorem dX2_restore_2 : decode cX2_restore 2 = .ok (.getfield 18, 3) := by decide +kernel
theorem dX2_restore_5 : decode cX2_restore 5 = .ok (.iconst 1, 1) := by decide +kernel
theorem dX2_restore_6 : decode cX2_restore 6 = .ok (.isub, 1) := by decide +kernel
theorem dX2_restore_7 : decode cX2_restore 7 = .ok (.invokevirtual 25, 3) := by decide +kernel
theorem dX2_restore_10 : decode cX2_restore 10 = .ok (.astore_n 2, 1) := by decide +kernel
theorem dX2_restore_11 : decode cX2_restore 11 = .ok (.aload_n 2, 1) := by decide +kernel
theorem dX2_restore_12 : decode cX2_restore 12 = .ok (.ifnull 18, 3) := by decide +kernel
theorem dX2_restore_15 : decode cX2_restore 15 = .ok (.aload_n 1, 1) := by decide +kernel
theorem dX2_restore_16 : decode cX2_restore 16 = .ok (.aload_n 2, 1) := by decide +kernel
theorem dX2_restore_17 : decode cX2_restore 17 = .ok (.invokevirtual 29, 3) := by decide +kernel
theorem dX2_restore_20 : decode cX2_restore 20 = .ok (.aload_n 0, 1) := by decide +kernel
theorem dX2_restore_21 : decode cX2_restore 21 = .ok (.dup, 1) := by decide +kernel
theorem dX2_restore_22 : decode cX2_restore 22 = .ok (.getfield 18, 3) := by decide +kernel
theorem dX2_restore_25 : decode cX2_restore 25 = .ok (.iconst 1, 1) := by decide +kernel
theorem dX2_restore_26 : decode cX2_restore 26 = .ok (.isub, 1) := by decide +kernel
theorem dX2_restore_27 : decode cX2_restore 27 = .ok (.putfield 18, 3) := by decide +kernel
theorem dX2_restore_30 : decode cX2_restore 30 = .ok (.return_, 1) := by decide +kernel
theorem dX2_stateAt_0 : decode cX2_stateAt 0 = .ok (.aload_n 0, 1) := by decide +kernel
theorem dX2_stateAt_1 : decode cX2_stateAt 1 = .ok (.getfield 22, 3) := by decide +kernel
theorem dX2_stateAt_4 : decode cX2_stateAt 4 = .ok (.iload_n 1, 1) := by decide +kernel
theorem dX2_stateAt_5 : decode cX2_stateAt 5 = .ok (.iadd, 1) := by decide +kernel
theorem dX2_stateAt_6 : decode cX2_stateAt 6 = .ok (.iconst 4, 1) := by decide +kernel
theorem dX2_stateAt_7 : decode cX2_stateAt 7 = .ok (.irem, 1) := by decide +kernel
theorem dX2_stateAt_8 : decode cX2_stateAt 8 = .ok (.istore_n 2, 1) := by decide +kernel
theorem dX2_stateAt_9 : decode cX2_stateAt 9 = .ok (.iload_n 1, 1) := by decide +kernel
theorem dX2_stateAt_10 : decode cX2_stateAt 10 = .ok (.ifCond .lt 25, 3) := by decide +kernel
theorem dX2_stateAt_13 : decode cX2_stateAt 13 = .ok (.iload_n 2, 1) := by decide +kernel
theorem dX2_stateAt_14 : decode cX2_stateAt 14 = .ok (.ifCond .lt 21, 3) := by decide +kernel
theorem dX2_stateAt_17 : decode cX2_stateAt 17 = .ok (.iload_n 2, 1) := by decide +kernel
theorem dX2_stateAt_18 : decode cX2_stateAt 18 = .ok (.aload_n 0, 1) := by decide +kernel
theorem dX2_stateAt_19 : decode cX2_stateAt 19 = .ok (.getfield 11, 3) := by decide +kernel
theorem dX2_stateAt_22 : decode cX2_stateAt 22 = .ok (.arraylength, 1) := by decide +kernel
theorem dX2_stateAt_23 : decode cX2_stateAt 23 = .ok (.if_icmp .ge 12, 3) := by decide +kernel
theorem dX2_stateAt_26 : decode cX2_stateAt 26 = .ok (.aload_n 0, 1) := by decide +kernel
theorem dX2_stateAt_27 : decode cX2_stateAt 27 = .ok (.getfield 11, 3) := by decide +kernel
theorem dX2_stateAt_30 : decode cX2_stateAt 30 = .ok (.iload_n 2, 1) := by decide +kernel
theorem dX2_stateAt_31 : decode cX2_stateAt 31 = .ok (.aaload, 1) := by decide +kernel
theorem dX2_stateAt_32 : decode cX2_stateAt 32 = .ok (.goto 4, 3) := by decide +kernel
theorem dX2_stateAt_35 : decode cX2_stateAt 35 = .ok (.aconst_null, 1) := by decide +kernel
theorem dX2_stateAt_36 : decode cX2_stateAt 36 = .ok (.areturn, 1) := by decide +kernel
theorem dX3_init_0 : decode cX3_init 0 = .ok (.aload_n 0, 1) := by decide +kernel
theorem dX3_init_1 : decode cX3_init 1 = .ok (.invokespecial 3, 3) := by decide +kernel
theorem dX3_init_4 : decode cX3_init 4 = .ok (.aload_n 0, 1) := by decide +kernel
theorem dX3_init_5 : decode cX3_init 5 = .ok (.bipush 60, 2) := by decide +kernel
theorem dX3_init_7 : decode cX3_init 7 = .ok (.newarray .int, 2) := by decide +kernel
theorem dX3_init_9 : decode cX3_init 9 = .ok (.putfield 9, 3) := by decide +kernel
theorem dX3_init_12 : decode cX3_init 12 = .ok (.aload_n 0, 1) := by decide +kernel
theorem dX3_init_13 : decode cX3_init 13 = .ok (.iconst 5, 1) := by decide +kernel
theorem dX3_init_14 : decode cX3_init 14 = .ok (.newarray .int, 2) := by decide +kernel
theorem dX3_init_16 : decode cX3_init 16 = .ok (.putfield 15, 3) := by decide +kernel
theorem dX3_init_19 : decode cX3_init 19 = .ok (.return_, 1) := by decide +kernel
theorem dX3_append_0 : decode cX3_append 0 = .ok (.aload_n 0, 1) := by decide +kernel
theorem dX3_append_1 : decode cX3_append 1 = .ok (.getfield 18, 3) := by decide +kernel
theorem dX3_append_4 : decode cX3_append 4 = .ok (.bipush 60, 2) := by decide +kernel
theorem dX3_append_6 : decode cX3_append 6 = .ok (.if_icmp .ge 25, 3) := by decide +kernel
theorem dX3_append_9 : decode cX3_append 9 = .ok (.aload_n 0, 1) := by decide +kernel
theorem dX3_append_10 : decode cX3_append 10 = .ok (.getfield 9, 3) := by decide +kernel
theorem dX3_append_13 : decode cX3_append 13 = .ok (.aload_n 0, 1) := by decide +kernel
theorem dX3_append_14 : decode cX3_append 14 = .ok (.getfield 18, 3) := by decide +kernel
theorem dX3_append_17 : decode cX3_append 17 = .ok (.iload_n 1, 1) := by decide +kernel
theorem dX3_append_18 : decode cX3_append 18 = .ok (.invokestatic 22, 3) := by decide +kernel
theorem dX3_append_21 : decode cX3_append 21 = .ok (.aload_n 0, 1) := by decide +kernel
theorem dX3_append_22 : decode cX3_append 22 = .ok (.dup, 1) := by decide +kernel
theorem dX3_append_23 : decode cX3_append 23 = .ok (.getfield 18, 3) := by decide +kernel
theorem dX3_append_26 : decode cX3_append 26 = .ok (.iconst 1, 1) := by decide +kernel
theorem dX3_append_27 : decode cX3_append 27 = .ok (.iadd, 1) := by decide +kernel
theorem dX3_append_28 : decode cX3_append 28 = .ok (.putfield 18, 3) := by decide +kernel
theorem dX3_append_31 : decode cX3_append 31 = .ok (.return_, 1) := by decide +kernel
theorem dX3_number_0 : decode cX3_number 0 = .ok (.aload_n 0, 1) := by decide +kernel
theorem dX3_number_1 : decode cX3_number 1 = .ok (.getfield 15, 3) := by decide +kernel
theorem dX3_number_4 : decode cX3_number 4 = .ok (.iload_n 1, 1) := by decide +kernel
theorem dX3_number_5 : decode cX3_number 5 = .ok (.invokestatic 28, 3) := by decide +kernel
theorem dX3_number_8 : decode cX3_number 8 = .ok (.ireturn, 1) := by decide +kernel
theorem dX3_examine_0 : decode cX3_examine 0 = .ok (.iload_n 1, 1) := by decide +kernel
theorem dX3_examine_1 : decode cX3_examine 1 = .ok (.istore_n 2, 1) := by decide +kernel
theorem dX3_examine_2 : decode cX3_examine 2 = .ok (.aload_n 0, 1) := by decide +kernel
theorem dX3_examine_3 : decode cX3_examine 3 = .ok (.iconst 0, 1) := by decide +kernel
theorem dX3_examine_4 : decode cX3_examine 4 = .ok (.putfield 32, 3) := by decide +kernel
theorem dX3_examine_7 : decode cX3_examine 7 = .ok (.aload_n 0, 1) := by decide +kernel
theorem dX3_examine_8 : decode cX3_examine 8 = .ok (.iconst 0, 1) := by decide +kernel
theorem dX3_examine_9 : decode cX3_examine 9 = .ok (.putfield 35, 3) := by decide +kernel
theorem dX3_examine_12 : decode cX3_examine 12 = .ok (.aload_n 0, 1) := by decide +kernel
theorem dX3_examine_13 : decode cX3_examine 13 = .ok (.iconst 0, 1) := by decide +kernel
theorem dX3_examine_14 : decode cX3_examine 14 = .ok (.putfield 38, 3) := by decide +kernel
theorem dX3_examine_17 : decode cX3_examine 17 = .ok (.iconst 0, 1) := by decide +kernel
theorem dX3_examine_18 : decode cX3_examine 18 = .ok (.istore_n 3, 1) := by decide +kernel
theorem dX3_examine_19 : decode cX3_examine 19 = .ok (.iload_n 3, 1) := by decide +kernel
theorem dX3_examine_20 : decode cX3_examine 20 = .ok (.bipush 60, 2) := by decide +kernel
theorem dX3_examine_22 : decode cX3_examine 22 = .ok (.if_icmp .ge 69, 3) := by decide +kernel
theorem dX3_examine_25 : decode cX3_examine 25 = .ok (.aload_n 0, 1) := by decide +kernel
theorem dX3_examine_26 : decode cX3_examine 26 = .ok (.getfield 35, 3) := by decide +kernel
theorem dX3_examine_29 : decode cX3_examine 29 = .ok (.aload_n 0, 1) := by decide +kernel
theorem dX3_examine_30 : decode cX3_examine 30 = .ok (.getfield 18, 3) := by decide +kernel
theorem dX3_examine_33 : decode cX3_examine 33 = .ok (.if_icmp .ge 58, 3) := by decide +kernel
theorem dX3_examine_36 : decode cX3_examine 36 = .ok (.aload_n 0, 1) := by decide +kernel
theorem dX3_examine_37 : decode cX3_examine 37 = .ok (.aload_n 0, 1) := by decide +kernel
theorem dX3_examine_38 : decode cX3_examine 38 = .ok (.aload_n 0, 1) := by decide +kernel
theorem dX3_examine_39 : decode cX3_examine 39 = .ok (.getfield 35, 3) := by decide +kernel
theorem dX3_examine_42 : decode cX3_examine 42 = .ok (.iload_n 2, 1) := by decide +kernel
theorem dX3_examine_43 : decode cX3_examine 43 = .ok (.invokevirtual 41, 3) := by decide +kernel
theorem dX3_examine_46 : decode cX3_examine 46 = .ok (.putfield 38, 3) := by decide +kernel
theorem dX3_examine_49 : decode cX3_examine 49 = .ok (.aload_n 0, 1) := by decide +kernel
theorem dX3_examine_50 : decode cX3_examine 50 = .ok (.getfield 38, 3) := by decide +kernel
theorem dX3_examine_53 : decode cX3_examine 53 = .ok (.ifCond .eq 4, 3) := by decide +kernel
theorem dX3_examine_56 : decode cX3_examine 56 = .ok (.return_, 1) := by decide +kernel
theorem dX3_examine_57 : decode cX3_examine 57 = .ok (.iload_n 2, 1) := by decide +kernel
theorem dX3_examine_58 : decode cX3_examine 58 = .ok (.iconst 1, 1) := by decide +kernel
theorem dX3_examine_59 : decode cX3_examine 59 = .ok (.aload_n 0, 1) := by decide +kernel
theorem dX3_examine_60 : decode cX3_examine 60 = .ok (.iconst 0, 1) := by decide +kernel
theorem dX3_examine_61 : decode cX3_examine 61 = .ok (.invokevirtual 45, 3) := by decide +kernel
theorem dX3_examine_64 : decode cX3_examine 64 = .ok (.ishl, 1) := by decide +kernel
theorem dX3_examine_65 : decode cX3_examine 65 = .ok (.ixor, 1) := by decide +kernel
theorem dX3_examine_66 : decode cX3_examine 66 = .ok (.istore_n 2, 1) := by decide +kernel
theorem dX3_examine_67 : decode cX3_examine 67 = .ok (.aload_n 0, 1) := by decide +kernel
theorem dX3_examine_68 : decode cX3_examine 68 = .ok (.dup, 1) := by decide +kernel
theorem dX3_examine_69 : decode cX3_examine 69 = .ok (.getfield 32, 3) := by decide +kernel
theorem dX3_examine_72 : decode cX3_examine 72 = .ok (.iconst 1, 1) := by decide +kernel
theorem dX3_examine_73 : decode cX3_examine 73 = .ok (.iadd, 1) := by decide +kernel
theorem dX3_examine_74 : decode cX3_examine 74 = .ok (.putfield 32, 3) := by decide +kernel
theorem dX3_examine_77 : decode cX3_examine 77 = .ok (.aload_n 0, 1) := by decide +kernel
theorem dX3_examine_78 : decode cX3_examine 78 = .ok (.aload_n 0, 1) := by decide +kernel
theorem dX3_examine_79 : decode cX3_examine 79 = .ok (.getfield 49, 3) := by decide +kernel
theorem dX3_examine_82 : decode cX3_examine 82 = .ok (.putfield 35, 3) := by decide +kernel
theorem dX3_examine_85 : decode cX3_examine 85 = .ok (.iinc 3 1, 3) := by decide +kernel
theorem dX3_examine_88 : decode cX3_examine 88 = .ok (.goto (-69), 3) := by decide +kernel
theorem dX3_examine_91 : decode cX3_examine 91 = .ok (.return_, 1) := by decide +kernel
theorem dX3_reasonAgainst_0 : decode cX3_reasonAgainst 0 = .ok (.aload_n 0, 1) := by decide +kernel
theorem dX3_reasonAgainst_1 : decode cX3_reasonAgainst 1 = .ok (.iload_n 1, 1) := by decide +kernel
theorem dX3_reasonAgainst_2 : decode cX3_reasonAgainst 2 = .ok (.invokevirtual 51, 3) := by decide +kernel
theorem dX3_reasonAgainst_5 : decode cX3_reasonAgainst 5 = .ok (.ifCond .ne 15, 3) := by decide +kernel
theorem dX3_reasonAgainst_8 : decode cX3_reasonAgainst 8 = .ok (.aload_n 0, 1) := by decide +kernel
theorem dX3_reasonAgainst_9 : decode cX3_reasonAgainst 9 = .ok (.aload_n 0, 1) := by decide +kernel
theorem dX3_reasonAgainst_10 : decode cX3_reasonAgainst 10 = .ok (.getfield 49, 3) := by decide +kernel
theorem dX3_reasonAgainst_13 : decode cX3_reasonAgainst 13 = .ok (.iload_n 1, 1) := by decide +kernel
theorem dX3_reasonAgainst_14 : decode cX3_reasonAgainst 14 = .ok (.isub, 1) := by decide +kernel
theorem dX3_reasonAgainst_15 : decode cX3_reasonAgainst 15 = .ok (.putfield 55, 3) := by decide +kernel
theorem dX3_reasonAgainst_18 : decode cX3_reasonAgainst 18 = .ok (.iconst 1, 1) := by decide +kernel
theorem dX3_reasonAgainst_19 : decode cX3_reasonAgainst 19 = .ok (.ireturn, 1) := by decide +kernel
theorem dX3_reasonAgainst_20 : decode cX3_reasonAgainst 20 = .ok (.aload_n 0, 1) := by decide +kernel
theorem dX3_reasonAgainst_21 : decode cX3_reasonAgainst 21 = .ok (.aload_n 0, 1) := by decide +kernel
theorem dX3_reasonAgainst_22 : decode cX3_reasonAgainst 22 = .ok (.invokevirtual 58, 3) := by decide +kernel
theorem dX3_reasonAgainst_25 : decode cX3_reasonAgainst 25 = .ok (.putfield 55, 3) := by decide +kernel
theorem dX3_reasonAgainst_28 : decode cX3_reasonAgainst 28 = .ok (.aload_n 0, 1) := by decide +kernel
theorem dX3_reasonAgainst_29 : decode cX3_reasonAgainst 29 = .ok (.getfield 55, 3) := by decide +kernel
theorem dX3_reasonAgainst_32 : decode cX3_reasonAgainst 32 = .ok (.iconst (-1), 1) := by decide +kernel
theorem dX3_reasonAgainst_33 : decode cX3_reasonAgainst 33 = .ok (.if_icmp .eq 5, 3) := by decide +kernel
theorem dX3_reasonAgainst_36 : decode cX3_reasonAgainst 36 = .ok (.iconst 2, 1) := by decide +kernel
theorem dX3_reasonAgainst_37 : decode cX3_reasonAgainst 37 = .ok (.ireturn, 1) := by decide +kernel
theorem dX3_reasonAgainst_38 : decode cX3_reasonAgainst 38 = .ok (.iload_n 2, 1) := by decide +kernel
theorem dX3_reasonAgainst_39 : decode cX3_reasonAgainst 39 = .ok (.aload_n 0, 1) := by decide +kernel
theorem dX3_reasonAgainst_40 : decode cX3_reasonAgainst 40 = .ok (.iconst 0, 1) := by decide +kernel
theorem dX3_reasonAgainst_41 : decode cX3_reasonAgainst 41 = .ok (.invokevirtual 45, 3) := by decide +kernel
theorem dX3_reasonAgainst_44 : decode cX3_reasonAgainst 44 = .ok (.ishr, 1) := by decide +kernel
theorem dX3_reasonAgainst_45 : decode cX3_reasonAgainst 45 = .ok (.iconst 1, 1) := by decide +kernel
theorem dX3_reasonAgainst_46 : decode cX3_reasonAgainst 46 = .ok (.iand, 1) := by decide +kernel
theorem dX3_reasonAgainst_47 : decode cX3_reasonAgainst 47 = .ok (.iconst 1, 1) := by decide +kernel
theorem dX3_reasonAgainst_48 : decode cX3_reasonAgainst 48 = .ok (.if_icmp .ne 7, 3) := by decide +kernel
theorem dX3_reasonAgainst_51 : decode cX3_reasonAgainst 51 = .ok (.iconst 1, 1) := by decide +kernel
theorem dX3_reasonAgainst_52 : decode cX3_reasonAgainst 52 = .ok (.goto 4, 3) := by decide +kernel
theorem dX3_reasonAgainst_55 : decode cX3_reasonAgainst 55 = .ok (.iconst 0, 1) := by decide +kernel
theorem dX3_reasonAgainst_56 : decode cX3_reasonAgainst 56 = .ok (.istore_n 3, 1) := by decide +kernel
theorem dX3_reasonAgainst_57 : decode cX3_reasonAgainst 57 = .ok (.iload_n 3, 1) := by decide +kernel
theorem dX3_reasonAgainst_58 : decode cX3_reasonAgainst 58 = .ok (.aload_n 0, 1) := by decide +kernel
theorem dX3_reasonAgainst_59 : decode cX3_reasonAgainst 59 = .ok (.getfield 62, 3) := by decide +kernel
theorem dX3_reasonAgainst_62 : decode cX3_reasonAgainst 62 = .ok (.if_icmp .ne 7, 3) := by decide +kernel
theorem dX3_reasonAgainst_65 : decode cX3_reasonAgainst 65 = .ok (.iconst 3, 1) := by decide +kernel
theorem dX3_reasonAgainst_66 : decode cX3_reasonAgainst 66 = .ok (.goto 4, 3) := by decide +kernel
theorem dX3_reasonAgainst_69 : decode cX3_reasonAgainst 69 = .ok (.iconst 0, 1) := by decide +kernel
theorem dX3_reasonAgainst_70 : decode cX3_reasonAgainst 70 = .ok (.ireturn, 1) := by decide +kernel
theorem dX3_wrongNumber_0 : decode cX3_wrongNumber 0 = .ok (.aload_n 0, 1) := by decide +kernel
theorem dX3_wrongNumber_1 : decode cX3_wrongNumber 1 = .ok (.iconst 0, 1) := by decide +kernel
theorem dX3_wrongNumber_2 : decode cX3_wrongNumber 2 = .ok (.invokevirtual 45, 3) := by decide +kernel
theorem dX3_wrongNumber_5 : decode cX3_wrongNumber 5 = .ok (.bipush 31, 2) := by decide +kernel
theorem dX3_wrongNumber_7 : decode cX3_wrongNumber 7 = .ok (.if_icmp .lt 5, 3) := by decide +kernel
theorem dX3_wrongNumber_10 : decode cX3_wrongNumber 10 = .ok (.iconst 0, 1) := by decide +kernel
theorem dX3_wrongNumber_11 : decode cX3_wrongNumber 11 = .ok (.ireturn, 1) := by decide +kernel
theorem dX3_wrongNumber_12 : decode cX3_wrongNumber 12 = .ok (.aload_n 0, 1) := by decide +kernel
theorem dX3_wrongNumber_13 : decode cX3_wrongNumber 13 = .ok (.getfield 62, 3) := by decide +kernel
theorem dX3_wrongNumber_16 : decode cX3_wrongNumber 16 = .ok (.ifCond .eq 18, 3) := by decide +kernel
theorem dX3_wrongNumber_19 : decode cX3_wrongNumber 19 = .ok (.aload_n 0, 1) := by decide +kernel
theorem dX3_wrongNumber_20 : decode cX3_wrongNumber 20 = .ok (.iconst 1, 1) := by decide +kernel
theorem dX3_wrongNumber_21 : decode cX3_wrongNumber 21 = .ok (.invokevirtual 45, 3) := by decide +kernel
theorem dX3_wrongNumber_24 : decode cX3_wrongNumber 24 = .ok (.aload_n 0, 1) := by decide +kernel
theorem dX3_wrongNumber_25 : decode cX3_wrongNumber 25 = .ok (.iconst 3, 1) := by decide +kernel
theorem dX3_wrongNumber_26 : decode cX3_wrongNumber 26 = .ok (.invokevirtual 45, 3) := by decide +kernel
theorem dX3_wrongNumber_29 : decode cX3_wrongNumber 29 = .ok (.if_icmp .le 5, 3) := by decide +kernel
theorem dX3_wrongNumber_32 : decode cX3_wrongNumber 32 = .ok (.iconst 1, 1) := by decide +kernel
theorem dX3_wrongNumber_33 : decode cX3_wrongNumber 33 = .ok (.ireturn, 1) := by decide +kernel
theorem dX3_wrongNumber_34 : decode cX3_wrongNumber 34 = .ok (.aload_n 0, 1) := by decide +kernel
theorem dX3_wrongNumber_35 : decode cX3_wrongNumber 35 = .ok (.getfield 62, 3) := by decide +kernel
theorem dX3_wrongNumber_38 : decode cX3_wrongNumber 38 = .ok (.ifCond .eq 20, 3) := by decide +kernel
theorem dX3_wrongNumber_41 : decode cX3_wrongNumber 41 = .ok (.aload_n 0, 1) := by decide +kernel
theorem dX3_wrongNumber_42 : decode cX3_wrongNumber 42 = .ok (.iconst 2, 1) := by decide +kernel
theorem dX3_wrongNumber_43 : decode cX3_wrongNumber 43 = .ok (.invokevirtual 45, 3) := by decide +kernel
theorem dX3_wrongNumber_46 : decode cX3_wrongNumber 46 = .ok (.aload_n 0, 1) := by decide +kernel
theorem dX3_wrongNumber_47 : decode cX3_wrongNumber 47 = .ok (.iconst 4, 1) := by decide +kernel
theorem dX3_wrongNumber_48 : decode cX3_wrongNumber 48 = .ok (.invokevirtual 45, 3) := by decide +kernel
theorem dX3_wrongNumber_51 : decode cX3_wrongNumber 51 = .ok (.if_icmp .le 7, 3) := by decide +kernel
theorem dX3_wrongNumber_54 : decode cX3_wrongNumber 54 = .ok (.iconst 2, 1) := by decide +kernel
theorem dX3_wrongNumber_55 : decode cX3_wrongNumber 55 = .ok (.goto 4, 3) := by decide +kernel
theorem dX3_wrongNumber_58 : decode cX3_wrongNumber 58 = .ok (.iconst (-1), 1) := by decide +kernel
theorem dX3_wrongNumber_59 : decode cX3_wrongNumber 59 = .ok (.ireturn, 1) := by decide +kernel
theorem dX3_read_0 : decode cX3_read 0 = .ok (.aload_n 0, 1) := by decide +kernel
theorem dX3_read_1 : decode cX3_read 1 = .ok (.iload_n 1, 1) := by decide +kernel
theorem dX3_read_2 : decode cX3_read 2 = .ok (.putfield 49, 3) := by decide +kernel
theorem dX3_read_5 : decode cX3_read 5 = .ok (.aload_n 0, 1) := by decide +kernel
theorem dX3_read_6 : decode cX3_read 6 = .ok (.aload_n 0, 1) := by decide +kernel
theorem dX3_read_7 : decode cX3_read 7 = .ok (.bipush 43, 2) := by decide +kernel
theorem dX3_read_9 : decode cX3_read 9 = .ok (.invokevirtual 66, 3) := by decide +kernel
theorem dX3_read_12 : decode cX3_read 12 = .ok (.putfield 62, 3) := by decide +kernel
theorem dX3_read_15 : decode cX3_read 15 = .ok (.aload_n 0, 1) := by decide +kernel
theorem dX3_read_16 : decode cX3_read 16 = .ok (.getfield 62, 3) := by decide +kernel
theorem dX3_read_19 : decode cX3_read 19 = .ok (.ifCond .ne 14, 3) := by decide +kernel
theorem dX3_read_22 : decode cX3_read 22 = .ok (.aload_n 0, 1) := by decide +kernel
theorem dX3_read_23 : decode cX3_read 23 = .ok (.bipush 45, 2) := by decide +kernel
theorem dX3_read_25 : decode cX3_read 25 = .ok (.invokevirtual 66, 3) := by decide +kernel
theorem dX3_read_28 : decode cX3_read 28 = .ok (.ifCond .ne 5, 3) := by decide +kernel
theorem dX3_read_31 : decode cX3_read 31 = .ok (.iconst 0, 1) := by decide +kernel
theorem dX3_read_32 : decode cX3_read 32 = .ok (.ireturn, 1) := by decide +kernel
theorem dX3_read_33 : decode cX3_read 33 = .ok (.aload_n 0, 1) := by decide +kernel
theorem dX3_read_34 : decode cX3_read 34 = .ok (.dup, 1) := by decide +kernel
theorem dX3_read_35 : decode cX3_read 35 = .ok (.getfield 49, 3) := by decide +kernel
theorem dX3_read_38 : decode cX3_read 38 = .ok (.iconst 1, 1) := by decide +kernel
theorem dX3_read_39 : decode cX3_read 39 = .ok (.iadd, 1) := by decide +kernel
theorem dX3_read_40 : decode cX3_read 40 = .ok (.putfield 49, 3) := by decide +kernel
theorem dX3_read_43 : decode cX3_read 43 = .ok (.aload_n 0, 1) := by decide +kernel
theorem dX3_read_44 : decode cX3_read 44 = .ok (.getfield 62, 3) := by decide +kernel
theorem dX3_read_47 : decode cX3_read 47 = .ok (.ifCond .eq 7, 3) := by decide +kernel
theorem dX3_read_50 : decode cX3_read 50 = .ok (.iconst 5, 1) := by decide +kernel
theorem dX3_read_51 : decode cX3_read 51 = .ok (.goto 4, 3) := by decide +kernel
theorem dX3_read_54 : decode cX3_read 54 = .ok (.iconst 1, 1) := by decide +kernel
theorem dX3_read_55 : decode cX3_read 55 = .ok (.istore_n 2, 1) := by decide +kernel
theorem dX3_read_56 : decode cX3_read 56 = .ok (.iconst 0, 1) := by decide +kernel
theorem dX3_read_57 : decode cX3_read 57 = .ok (.istore_n 3, 1) := by decide +kernel
theorem dX3_read_58 : decode cX3_read 58 = .ok (.iload_n 3, 1) := by decide +kernel
theorem dX3_read_59 : decode cX3_read 59 = .ok (.iload_n 2, 1) := by decide +kernel
theorem dX3_read_60 : decode cX3_read 60 = .ok (.if_icmp .ge 50, 3) := by decide +kernel
theorem dX3_read_63 : decode cX3_read 63 = .ok (.aload_n 0, 1) := by decide +kernel
theorem dX3_read_64 : decode cX3_read 64 = .ok (.iload_n 3, 1) := by decide +kernel
theorem dX3_read_65 : decode cX3_read 65 = .ok (.invokevirtual 69, 3) := by decide +kernel
theorem dX3_read_68 : decode cX3_read 68 = .ok (.ifCond .eq 24, 3) := by decide +kernel
theorem dX3_read_71 : decode cX3_read 71 = .ok (.aload_n 0, 1) := by decide +kernel
theorem dX3_read_72 : decode cX3_read 72 = .ok (.iload_n 3, 1) := by decide +kernel
theorem dX3_read_73 : decode cX3_read 73 = .ok (.iload_n 2, 1) := by decide +kernel
theorem dX3_read_74 : decode cX3_read 74 = .ok (.iconst 1, 1) := by decide +kernel
theorem dX3_read_75 : decode cX3_read 75 = .ok (.isub, 1) := by decide +kernel
theorem dX3_read_76 : decode cX3_read 76 = .ok (.if_icmp .ne 8, 3) := by decide +kernel
theorem dX3_read_79 : decode cX3_read 79 = .ok (.bipush 59, 2) := by decide +kernel
theorem dX3_read_81 : decode cX3_read 81 = .ok (.goto 5, 3) := by decide +kernel
theorem dX3_read_84 : decode cX3_read 84 = .ok (.bipush 44, 2) := by decide +kernel
theorem dX3_read_86 : decode cX3_read 86 = .ok (.invokevirtual 66, 3) := by decide +kernel
theorem dX3_read_89 : decode cX3_read 89 = .ok (.ifCond .ne 5, 3) := by decide +kernel
theorem dX3_read_92 : decode cX3_read 92 = .ok (.iconst 0, 1) := by decide +kernel
theorem dX3_read_93 : decode cX3_read 93 = .ok (.ireturn, 1) := by decide +kernel
theorem dX3_read_94 : decode cX3_read 94 = .ok (.aload_n 0, 1) := by decide +kernel
theorem dX3_read_95 : decode cX3_read 95 = .ok (.dup, 1) := by decide +kernel
theorem dX3_read_96 : decode cX3_read 96 = .ok (.getfield 49, 3) := by decide +kernel
theorem dX3_read_99 : decode cX3_read 99 = .ok (.iconst 1, 1) := by decide +kernel
theorem dX3_read_100 : decode cX3_read 100 = .ok (.iadd, 1) := by decide +kernel
theorem dX3_read_101 : decode cX3_read 101 = .ok (.putfield 49, 3) := by decide +kernel
theorem dX3_read_104 : decode cX3_read 104 = .ok (.iinc 3 1, 3) := by decide +kernel
theorem dX3_read_107 : decode cX3_read 107 = .ok (.goto (-49), 3) := by decide +kernel
theorem dX3_read_110 : decode cX3_read 110 = .ok (.iconst 1, 1) := by decide +kernel
theorem dX3_read_111 : decode cX3_read 111 = .ok (.ireturn, 1) := by decide +kernel
theorem dX3_readNumber_0 : decode cX3_readNumber 0 = .ok (.aload_n 0, 1) := by decide +kernel
theorem dX3_readNumber_1 : decode cX3_readNumber 1 = .ok (.invokevirtual 72, 3) := by decide +kernel
theorem dX3_readNumber_4 : decode cX3_readNumber 4 = .ok (.ifCond .ne 5, 3) := by decide +kernel
theorem dX3_readNumber_7 : decode cX3_readNumber 7 = .ok (.iconst 0, 1) := by decide +kernel
theorem dX3_readNumber_8 : decode cX3_readNumber 8 = .ok (.ireturn, 1) := by decide +kernel
theorem dX3_readNumber_9 : decode cX3_readNumber 9 = .ok (.aload_n 0, 1) := by decide +kernel
theorem dX3_readNumber_10 : decode cX3_readNumber 10 = .ok (.getfield 9, 3) := by decide +kernel
theorem dX3_readNumber_13 : decode cX3_readNumber 13 = .ok (.aload_n 0, 1) := by decide +kernel
theorem dX3_readNumber_14 : decode cX3_readNumber 14 = .ok (.getfield 49, 3) := by decide +kernel
theorem dX3_readNumber_17 : decode cX3_readNumber 17 = .ok (.invokestatic 28, 3) := by decide +kernel
theorem dX3_readNumber_20 : decode cX3_readNumber 20 = .ok (.bipush 48, 2) := by decide +kernel
theorem dX3_readNumber_22 : decode cX3_readNumber 22 = .ok (.isub, 1) := by decide +kernel
theorem dX3_readNumber_23 : decode cX3_readNumber 23 = .ok (.istore_n 2, 1) := by decide +kernel
theorem dX3_readNumber_24 : decode cX3_readNumber 24 = .ok (.aload_n 0, 1) := by decide +kernel
theorem dX3_readNumber_25 : decode cX3_readNumber 25 = .ok (.dup, 1) := by decide +kernel
theorem dX3_readNumber_26 : decode cX3_readNumber 26 = .ok (.getfield 49, 3) := by decide +kernel
theorem dX3_readNumber_29 : decode cX3_readNumber 29 = .ok (.iconst 1, 1) := by decide +kernel
theorem dX3_readNumber_30 : decode cX3_readNumber 30 = .ok (.iadd, 1) := by decide +kernel
theorem dX3_readNumber_31 : decode cX3_readNumber 31 = .ok (.putfield 49, 3) := by decide +kernel
theorem dX3_readNumber_34 : decode cX3_readNumber 34 = .ok (.aload_n 0, 1) := by decide +kernel
theorem dX3_readNumber_35 : decode cX3_readNumber 35 = .ok (.invokevirtual 72, 3) := by decide +kernel
theorem dX3_readNumber_38 : decode cX3_readNumber 38 = .ok (.ifCond .eq 33, 3) := by decide +kernel
theorem dX3_readNumber_41 : decode cX3_readNumber 41 = .ok (.iload_n 2, 1) := by decide +kernel
theorem dX3_readNumber_42 : decode cX3_readNumber 42 = .ok (.bipush 10, 2) := by decide +kernel
theorem dX3_readNumber_44 : decode cX3_readNumber 44 = .ok (.imul, 1) := by decide +kernel
theorem dX3_readNumber_45 : decode cX3_readNumber 45 = .ok (.aload_n 0, 1) := by decide +kernel
theorem dX3_readNumber_46 : decode cX3_readNumber 46 = .ok (.getfield 9, 3) := by decide +kernel
theorem dX3_readNumber_49 : decode cX3_readNumber 49 = .ok (.aload_n 0, 1) := by decide +kernel
theorem dX3_readNumber_50 : decode cX3_readNumber 50 = .ok (.getfield 49, 3) := by decide +kernel
theorem dX3_readNumber_53 : decode cX3_readNumber 53 = .ok (.invokestatic 28, 3) := by decide +kernel
theorem dX3_readNumber_56 : decode cX3_readNumber 56 = .ok (.iadd, 1) := by decide +kernel
theorem dX3_readNumber_57 : decode cX3_readNumber 57 = .ok (.bipush 48, 2) := by decide +kernel
theorem dX3_readNumber_59 : decode cX3_readNumber 59 = .ok (.isub, 1) := by decide +kernel
theorem dX3_readNumber_60 : decode cX3_readNumber 60 = .ok (.istore_n 2, 1) := by decide +kernel
theorem dX3_readNumber_61 : decode cX3_readNumber 61 = .ok (.aload_n 0, 1) := by decide +kernel
theorem dX3_readNumber_62 : decode cX3_readNumber 62 = .ok (.dup, 1) := by decide +kernel
theorem dX3_readNumber_63 : decode cX3_readNumber 63 = .ok (.getfield 49, 3) := by decide +kernel
theorem dX3_readNumber_66 : decode cX3_readNumber 66 = .ok (.iconst 1, 1) := by decide +kernel
theorem dX3_readNumber_67 : decode cX3_readNumber 67 = .ok (.iadd, 1) := by decide +kernel
theorem dX3_readNumber_68 : decode cX3_readNumber 68 = .ok (.putfield 49, 3) := by decide +kernel
theorem dX3_readNumber_71 : decode cX3_readNumber 71 = .ok (.aload_n 0, 1) := by decide +kernel
theorem dX3_readNumber_72 : decode cX3_readNumber 72 = .ok (.getfield 15, 3) := by decide +kernel
theorem dX3_readNumber_75 : decode cX3_readNumber 75 = .ok (.iload_n 1, 1) := by decide +kernel
theorem dX3_readNumber_76 : decode cX3_readNumber 76 = .ok (.iload_n 2, 1) := by decide +kernel
theorem dX3_readNumber_77 : decode cX3_readNumber 77 = .ok (.invokestatic 22, 3) := by decide +kernel
theorem dX3_readNumber_80 : decode cX3_readNumber 80 = .ok (.iconst 1, 1) := by decide +kernel
theorem dX3_readNumber_81 : decode cX3_readNumber 81 = .ok (.ireturn, 1) := by decide +kernel
theorem dX3_signIs_0 : decode cX3_signIs 0 = .ok (.aload_n 0, 1) := by decide +kernel
theorem dX3_signIs_1 : decode cX3_signIs 1 = .ok (.getfield 49, 3) := by decide +kernel
theorem dX3_signIs_4 : decode cX3_signIs 4 = .ok (.aload_n 0, 1) := by decide +kernel
theorem dX3_signIs_5 : decode cX3_signIs 5 = .ok (.getfield 18, 3) := by decide +kernel
theorem dX3_signIs_8 : decode cX3_signIs 8 = .ok (.if_icmp .ge 22, 3) := by decide +kernel
theorem dX3_signIs_11 : decode cX3_signIs 11 = .ok (.aload_n 0, 1) := by decide +kernel
theorem dX3_signIs_12 : decode cX3_signIs 12 = .ok (.getfield 9, 3) := by decide +kernel
theorem dX3_signIs_15 : decode cX3_signIs 15 = .ok (.aload_n 0, 1) := by decide +kernel
theorem dX3_signIs_16 : decode cX3_signIs 16 = .ok (.getfield 49, 3) := by decide +kernel
theorem dX3_signIs_19 : decode cX3_signIs 19 = .ok (.invokestatic 28, 3) := by decide +kernel
theorem dX3_signIs_22 : decode cX3_signIs 22 = .ok (.iload_n 1, 1) := by decide +kernel
theorem dX3_signIs_23 : decode cX3_signIs 23 = .ok (.if_icmp .ne 7, 3) := by decide +kernel
theorem dX3_signIs_26 : decode cX3_signIs 26 = .ok (.iconst 1, 1) := by decide +kernel
theorem dX3_signIs_27 : decode cX3_signIs 27 = .ok (.goto 4, 3) := by decide +kernel
theorem dX3_signIs_30 : decode cX3_signIs 30 = .ok (.iconst 0, 1) := by decide +kernel
theorem dX3_signIs_31 : decode cX3_signIs 31 = .ok (.ireturn, 1) := by decide +kernel
theorem dX3_signIsDigit_0 : decode cX3_signIsDigit 0 = .ok (.aload_n 0, 1) := by decide +kernel
theorem dX3_signIsDigit_1 : decode cX3_signIsDigit 1 = .ok (.getfield 49, 3) := by decide +kernel
theorem dX3_signIsDigit_4 : decode cX3_signIsDigit 4 = .ok (.aload_n 0, 1) := by decide +kernel
theorem dX3_signIsDigit_5 : decode cX3_signIsDigit 5 = .ok (.getfield 18, 3) := by decide +kernel
theorem dX3_signIsDigit_8 : decode cX3_signIsDigit 8 = .ok (.if_icmp .ge 39, 3) := by decide +kernel
theorem dX3_signIsDigit_11 : decode cX3_signIsDigit 11 = .ok (.aload_n 0, 1) := by decide +kernel
theorem dX3_signIsDigit_12 : decode cX3_signIsDigit 12 = .ok (.getfield 9, 3) := by decide +kernel
theorem dX3_signIsDigit_15 : decode cX3_signIsDigit 15 = .ok (.aload_n 0, 1) := by decide +kernel
theorem dX3_signIsDigit_16 : decode cX3_signIsDigit 16 = .ok (.getfield 49, 3) := by decide +kernel
theorem dX3_signIsDigit_19 : decode cX3_signIsDigit 19 = .ok (.invokestatic 28, 3) := by decide +kernel
theorem dX3_signIsDigit_22 : decode cX3_signIsDigit 22 = .ok (.bipush 48, 2) := by decide +kernel
theorem dX3_signIsDigit_24 : decode cX3_signIsDigit 24 = .ok (.if_icmp .lt 23, 3) := by decide +kernel
theorem dX3_signIsDigit_27 : decode cX3_signIsDigit 27 = .ok (.aload_n 0, 1) := by decide +kernel
theorem dX3_signIsDigit_28 : decode cX3_signIsDigit 28 = .ok (.getfield 9, 3) := by decide +kernel
theorem dX3_signIsDigit_31 : decode cX3_signIsDigit 31 = .ok (.aload_n 0, 1) := by decide +kernel
theorem dX3_signIsDigit_32 : decode cX3_signIsDigit 32 = .ok (.getfield 49, 3) := by decide +kernel
theorem dX3_signIsDigit_35 : decode cX3_signIsDigit 35 = .ok (.invokestatic 28, 3) := by decide +kernel
theorem dX3_signIsDigit_38 : decode cX3_signIsDigit 38 = .ok (.bipush 57, 2) := by decide +kernel
theorem dX3_signIsDigit_40 : decode cX3_signIsDigit 40 = .ok (.if_icmp .gt 7, 3) := by decide +kernel
theorem dX3_signIsDigit_43 : decode cX3_signIsDigit 43 = .ok (.iconst 1, 1) := by decide +kernel
theorem dX3_signIsDigit_44 : decode cX3_signIsDigit 44 = .ok (.goto 4, 3) := by decide +kernel
theorem dX3_signIsDigit_47 : decode cX3_signIsDigit 47 = .ok (.iconst 0, 1) := by decide +kernel
theorem dX3_signIsDigit_48 : decode cX3_signIsDigit 48 = .ok (.ireturn, 1) := by decide +kernel
theorem dX4_at_0 : decode cX4_at 0 = .ok (.iload_n 1, 1) := by decide +kernel
theorem dX4_at_1 : decode cX4_at 1 = .ok (.ifCond .lt 15, 3) := by decide +kernel
theorem dX4_at_4 : decode cX4_at 4 = .ok (.iload_n 1, 1) := by decide +kernel
theorem dX4_at_5 : decode cX4_at 5 = .ok (.aload_n 0, 1) := by decide +kernel
theorem dX4_at_6 : decode cX4_at 6 = .ok (.arraylength, 1) := by decide +kernel
theorem dX4_at_7 : decode cX4_at 7 = .ok (.if_icmp .ge 9, 3) := by decide +kernel
theorem dX4_at_10 : decode cX4_at 10 = .ok (.aload_n 0, 1) := by decide +kernel
theorem dX4_at_11 : decode cX4_at 11 = .ok (.iload_n 1, 1) := by decide +kernel
theorem dX4_at_12 : decode cX4_at 12 = .ok (.iaload, 1) := by decide +kernel
theorem dX4_at_13 : decode cX4_at 13 = .ok (.goto 4, 3) := by decide +kernel
theorem dX4_at_16 : decode cX4_at 16 = .ok (.iconst (-1), 1) := by decide +kernel
theorem dX4_at_17 : decode cX4_at 17 = .ok (.ireturn, 1) := by decide +kernel
theorem dX4_set_0 : decode cX4_set 0 = .ok (.iload_n 1, 1) := by decide +kernel
theorem dX4_set_1 : decode cX4_set 1 = .ok (.ifCond .lt 13, 3) := by decide +kernel
theorem dX4_set_4 : decode cX4_set 4 = .ok (.iload_n 1, 1) := by decide +kernel
theorem dX4_set_5 : decode cX4_set 5 = .ok (.aload_n 0, 1) := by decide +kernel
theorem dX4_set_6 : decode cX4_set 6 = .ok (.arraylength, 1) := by decide +kernel
theorem dX4_set_7 : decode cX4_set 7 = .ok (.if_icmp .ge 7, 3) := by decide +kernel
theorem dX4_set_10 : decode cX4_set 10 = .ok (.aload_n 0, 1) := by decide +kernel
theorem dX4_set_11 : decode cX4_set 11 = .ok (.iload_n 1, 1) := by decide +kernel
theorem dX4_set_12 : decode cX4_set 12 = .ok (.iload_n 2, 1) := by decide +kernel
theorem dX4_set_13 : decode cX4_set 13 = .ok (.iastore, 1) := by decide +kernel
theorem dX4_set_14 : decode cX4_set 14 = .ok (.return_, 1) := by decide +kernel
theorem dX5_init_0 : decode cX5_init 0 = .ok (.aload_n 0, 1) := by decide +kernel
theorem dX5_init_1 : decode cX5_init 1 = .ok (.invokespecial 3, 3) := by decide +kernel
theorem dX5_init_4 : decode cX5_init 4 = .ok (.aload_n 0, 1) := by decide +kernel
theorem dX5_init_5 : decode cX5_init 5 = .ok (.bipush 32, 2) := by decide +kernel
theorem dX5_init_7 : decode cX5_init 7 = .ok (.newarray .int, 2) := by decide +kernel
theorem dX5_init_9 : decode cX5_init 9 = .ok (.putfield 9, 3) := by decide +kernel
theorem dX5_init_12 : decode cX5_init 12 = .ok (.aload_n 0, 1) := by decide +kernel
theorem dX5_init_13 : decode cX5_init 13 = .ok (.aload_n 1, 1) := by decide +kernel
theorem dX5_init_14 : decode cX5_init 14 = .ok (.putfield 15, 3) := by decide +kernel
theorem dX5_init_17 : decode cX5_init 17 = .ok (.return_, 1) := by decide +kernel
theorem dX5_lookFrom_0 : decode cX5_lookFrom 0 = .ok (.aload_n 0, 1) := by decide +kernel
theorem dX5_lookFrom_1 : decode cX5_lookFrom 1 = .ok (.iconst 0, 1) := by decide +kernel
theorem dX5_lookFrom_2 : decode cX5_lookFrom 2 = .ok (.putfield 19, 3) := by decide +kernel
theorem dX5_lookFrom_5 : decode cX5_lookFrom 5 = .ok (.aload_n 0, 1) := by decide +kernel
theorem dX5_lookFrom_6 : decode cX5_lookFrom 6 = .ok (.iload_n 1, 1) := by decide +kernel
theorem dX5_lookFrom_7 : decode cX5_lookFrom 7 = .ok (.invokevirtual 23, 3) := by decide +kernel
theorem dX5_lookFrom_10 : decode cX5_lookFrom 10 = .ok (.iconst 0, 1) := by decide +kernel
theorem dX5_lookFrom_11 : decode cX5_lookFrom 11 = .ok (.istore_n 2, 1) := by decide +kernel
theorem dX5_lookFrom_12 : decode cX5_lookFrom 12 = .ok (.iload_n 2, 1) := by decide +kernel
theorem dX5_lookFrom_13 : decode cX5_lookFrom 13 = .ok (.bipush 32, 2) := by decide +kernel
theorem dX5_lookFrom_15 : decode cX5_lookFrom 15 = .ok (.if_icmp .ge 81, 3) := by decide +kernel
theorem dX5_lookFrom_18 : decode cX5_lookFrom 18 = .ok (.iload_n 2, 1) := by decide +kernel
theorem dX5_lookFrom_19 : decode cX5_lookFrom 19 = .ok (.aload_n 0, 1) := by decide +kernel
theorem dX5_lookFrom_20 : decode cX5_lookFrom 20 = .ok (.getfield 19, 3) := by decide +kernel
theorem dX5_lookFrom_23 : decode cX5_lookFrom 23 = .ok (.if_icmp .ge 73, 3) := by decide +kernel
theorem dX5_lookFrom_26 : decode cX5_lookFrom 26 = .ok (.aload_n 0, 1) := by decide +kernel
theorem dX5_lookFrom_27 : decode cX5_lookFrom 27 = .ok (.getfield 9, 3) := by decide +kernel
theorem dX5_lookFrom_30 : decode cX5_lookFrom 30 = .ok (.iload_n 2, 1) := by decide +kernel
theorem dX5_lookFrom_31 : decode cX5_lookFrom 31 = .ok (.invokestatic 27, 3) := by decide +kernel
theorem dX5_lookFrom_34 : decode cX5_lookFrom 34 = .ok (.istore_n 3, 1) := by decide +kernel
theorem dX5_lookFrom_35 : decode cX5_lookFrom 35 = .ok (.aload_n 0, 1) := by decide +kernel
theorem dX5_lookFrom_36 : decode cX5_lookFrom 36 = .ok (.getfield 15, 3) := by decide +kernel
theorem dX5_lookFrom_39 : decode cX5_lookFrom 39 = .ok (.iload_n 3, 1) := by decide +kernel
theorem dX5_lookFrom_40 : decode cX5_lookFrom 40 = .ok (.invokevirtual 33, 3) := by decide +kernel
theorem dX5_lookFrom_43 : decode cX5_lookFrom 43 = .ok (.ifCond .le 14, 3) := by decide +kernel
theorem dX5_lookFrom_46 : decode cX5_lookFrom 46 = .ok (.aload_n 0, 1) := by decide +kernel
theorem dX5_lookFrom_47 : decode cX5_lookFrom 47 = .ok (.getfield 15, 3) := by decide +kernel
theorem dX5_lookFrom_50 : decode cX5_lookFrom 50 = .ok (.iload_n 3, 1) := by decide +kernel
theorem dX5_lookFrom_51 : decode cX5_lookFrom 51 = .ok (.invokevirtual 39, 3) := by decide +kernel
theorem dX5_lookFrom_54 : decode cX5_lookFrom 54 = .ok (.goto 4, 3) := by decide +kernel
theorem dX5_lookFrom_57 : decode cX5_lookFrom 57 = .ok (.iconst 0, 1) := by decide +kernel
theorem dX5_lookFrom_58 : decode cX5_lookFrom 58 = .ok (.istore 4, 2) := by decide +kernel
theorem dX5_lookFrom_60 : decode cX5_lookFrom 60 = .ok (.iconst 0, 1) := by decide +kernel
theorem dX5_lookFrom_61 : decode cX5_lookFrom 61 = .ok (.istore 5, 2) := by decide +kernel
theorem dX5_lookFrom_63 : decode cX5_lookFrom 63 = .ok (.iload 5, 2) := by decide +kernel
theorem dX5_lookFrom_65 : decode cX5_lookFrom 65 = .ok (.iload 4, 2) := by decide +kernel
theorem dX5_lookFrom_67 : decode cX5_lookFrom 67 = .ok (.if_icmp .ge 23, 3) := by decide +kernel
theorem dX5_lookFrom_70 : decode cX5_lookFrom 70 = .ok (.aload_n 0, 1) := by decide +kernel
theorem dX5_lookFrom_71 : decode cX5_lookFrom 71 = .ok (.aload_n 0, 1) := by decide +kernel
theorem dX5_lookFrom_72 : decode cX5_lookFrom 72 = .ok (.getfield 15, 3) := by decide +kernel
theorem dX5_lookFrom_75 : decode cX5_lookFrom 75 = .ok (.iload_n 3, 1) := by decide +kernel
theorem dX5_lookFrom_76 : decode cX5_lookFrom 76 = .ok (.iload 5, 2) := by decide +kernel
theorem dX5_lookFrom_78 : decode cX5_lookFrom 78 = .ok (.invokevirtual 42, 3) := by decide +kernel
theorem dX5_lookFrom_81 : decode cX5_lookFrom 81 = .ok (.invokevirtual 23, 3) := by decide +kernel
theorem dX5_lookFrom_84 : decode cX5_lookFrom 84 = .ok (.iinc 5 1, 3) := by decide +kernel
theorem dX5_lookFrom_87 : decode cX5_lookFrom 87 = .ok (.goto (-24), 3) := by decide +kernel
theorem dX5_lookFrom_90 : decode cX5_lookFrom 90 = .ok (.iinc 2 1, 3) := by decide +kernel
theorem dX5_lookFrom_93 : decode cX5_lookFrom 93 = .ok (.goto (-81), 3) := by decide +kernel
theorem dX5_lookFrom_96 : decode cX5_lookFrom 96 = .ok (.return_, 1) := by decide +kernel
theorem dX5_note_0 : decode cX5_note 0 = .ok (.aload_n 0, 1) := by decide +kernel
theorem dX5_note_1 : decode cX5_note 1 = .ok (.getfield 19, 3) := by decide +kernel
theorem dX5_note_4 : decode cX5_note 4 = .ok (.bipush 32, 2) := by decide +kernel
theorem dX5_note_6 : decode cX5_note 6 = .ok (.if_icmp .ge 25, 3) := by decide +kernel
theorem dX5_note_9 : decode cX5_note 9 = .ok (.aload_n 0, 1) := by decide +kernel
theorem dX5_note_10 : decode cX5_note 10 = .ok (.getfield 9, 3) := by decide +kernel
theorem dX5_note_13 : decode cX5_note 13 = .ok (.aload_n 0, 1) := by decide +kernel
theorem dX5_note_14 : decode cX5_note 14 = .ok (.getfield 19, 3) := by decide +kernel
theorem dX5_note_17 : decode cX5_note 17 = .ok (.iload_n 1, 1) := by decide +kernel
theorem dX5_note_18 : decode cX5_note 18 = .ok (.invokestatic 46, 3) := by decide +kernel
theorem dX5_note_21 : decode cX5_note 21 = .ok (.aload_n 0, 1) := by decide +kernel
theorem dX5_note_22 : decode cX5_note 22 = .ok (.dup, 1) := by decide +kernel
theorem dX5_note_23 : decode cX5_note 23 = .ok (.getfield 19, 3) := by decide +kernel
theorem dX5_note_26 : decode cX5_note 26 = .ok (.iconst 1, 1) := by decide +kernel
theorem dX5_note_27 : decode cX5_note 27 = .ok (.iadd, 1) := by decide +kernel
theorem dX5_note_28 : decode cX5_note 28 = .ok (.putfield 19, 3) := by decide +kernel
theorem dX5_note_31 : decode cX5_note 31 = .ok (.return_, 1) := by decide +kernel
theorem dX5_nodeSeen_0 : decode cX5_nodeSeen 0 = .ok (.aload_n 0, 1) := by decide +kernel
theorem dX5_nodeSeen_1 : decode cX5_nodeSeen 1 = .ok (.getfield 9, 3) := by decide +kernel
theorem dX5_nodeSeen_4 : decode cX5_nodeSeen 4 = .ok (.iload_n 1, 1) := by decide +kernel
theorem dX5_nodeSeen_5 : decode cX5_nodeSeen 5 = .ok (.invokestatic 27, 3) := by decide +kernel
theorem dX5_nodeSeen_8 : decode cX5_nodeSeen 8 = .ok (.ireturn, 1) := by decide +kernel
theorem dX5_hullSeen_0 : decode cX5_hullSeen 0 = .ok (.aload_n 0, 1) := by decide +kernel
theorem dX5_hullSeen_1 : decode cX5_hullSeen 1 = .ok (.getfield 15, 3) := by decide +kernel
theorem dX5_hullSeen_4 : decode cX5_hullSeen 4 = .ok (.getfield 50, 3) := by decide +kernel
theorem dX5_hullSeen_7 : decode cX5_hullSeen 7 = .ok (.aload_n 0, 1) := by decide +kernel
theorem dX5_hullSeen_8 : decode cX5_hullSeen 8 = .ok (.iload_n 1, 1) := by decide +kernel
theorem dX5_hullSeen_9 : decode cX5_hullSeen 9 = .ok (.invokevirtual 53, 3) := by decide +kernel
theorem dX5_hullSeen_12 : decode cX5_hullSeen 12 = .ok (.invokestatic 27, 3) := by decide +kernel
theorem dX5_hullSeen_15 : decode cX5_hullSeen 15 = .ok (.ireturn, 1) := by decide +kernel
theorem dX5_levelSeen_0 : decode cX5_levelSeen 0 = .ok (.aload_n 0, 1) := by decide +kernel
theorem dX5_levelSeen_1 : decode cX5_levelSeen 1 = .ok (.getfield 15, 3) := by decide +kernel
theorem dX5_levelSeen_4 : decode cX5_levelSeen 4 = .ok (.aload_n 0, 1) := by decide +kernel
theorem dX5_levelSeen_5 : decode cX5_levelSeen 5 = .ok (.iload_n 1, 1) := by decide +kernel
theorem dX5_levelSeen_6 : decode cX5_levelSeen 6 = .ok (.invokevirtual 53, 3) := by decide +kernel
theorem dX5_levelSeen_9 : decode cX5_levelSeen 9 = .ok (.invokevirtual 33, 3) := by decide +kernel
theorem dX5_levelSeen_12 : decode cX5_levelSeen 12 = .ok (.ireturn, 1) := by decide +kernel
theorem dX5_nodes_0 : decode cX5_nodes 0 = .ok (.aload_n 0, 1) := by decide +kernel
theorem dX5_nodes_1 : decode cX5_nodes 1 = .ok (.aload_n 0, 1) := by decide +kernel
theorem dX5_nodes_2 : decode cX5_nodes 2 = .ok (.getfield 15, 3) := by decide +kernel
theorem dX5_nodes_5 : decode cX5_nodes 5 = .ok (.getfield 56, 3) := by decide +kernel
theorem dX5_nodes_8 : decode cX5_nodes 8 = .ok (.invokevirtual 59, 3) := by decide +kernel
theorem dX5_nodes_11 : decode cX5_nodes 11 = .ok (.aload_n 0, 1) := by decide +kernel
theorem dX5_nodes_12 : decode cX5_nodes 12 = .ok (.getfield 19, 3) := by decide +kernel
theorem dX5_nodes_15 : decode cX5_nodes 15 = .ok (.ireturn, 1) := by decide +kernel
theorem dX5_leaves_0 : decode cX5_leaves 0 = .ok (.aload_n 0, 1) := by decide +kernel
theorem dX5_leaves_1 : decode cX5_leaves 1 = .ok (.aload_n 0, 1) := by decide +kernel
theorem dX5_leaves_2 : decode cX5_leaves 2 = .ok (.getfield 15, 3) := by decide +kernel
theorem dX5_leaves_5 : decode cX5_leaves 5 = .ok (.getfield 56, 3) := by decide +kernel
theorem dX5_leaves_8 : decode cX5_leaves 8 = .ok (.invokevirtual 59, 3) := by decide +kernel
theorem dX5_leaves_11 : decode cX5_leaves 11 = .ok (.iconst 0, 1) := by decide +kernel
theorem dX5_leaves_12 : decode cX5_leaves 12 = .ok (.istore_n 1, 1) := by decide +kernel
theorem dX5_leaves_13 : decode cX5_leaves 13 = .ok (.iconst 0, 1) := by decide +kernel
theorem dX5_leaves_14 : decode cX5_leaves 14 = .ok (.istore_n 2, 1) := by decide +kernel
theorem dX5_leaves_15 : decode cX5_leaves 15 = .ok (.iload_n 2, 1) := by decide +kernel
theorem dX5_leaves_16 : decode cX5_leaves 16 = .ok (.aload_n 0, 1) := by decide +kernel
theorem dX5_leaves_17 : decode cX5_leaves 17 = .ok (.getfield 19, 3) := by decide +kernel
theorem dX5_leaves_20 : decode cX5_leaves 20 = .ok (.if_icmp .ge 20, 3) := by decide +kernel
theorem dX5_leaves_23 : decode cX5_leaves 23 = .ok (.aload_n 0, 1) := by decide +kernel
theorem dX5_leaves_24 : decode cX5_leaves 24 = .ok (.iload_n 2, 1) := by decide +kernel
theorem dX5_leaves_25 : decode cX5_leaves 25 = .ok (.invokevirtual 62, 3) := by decide +kernel
theorem dX5_leaves_28 : decode cX5_leaves 28 = .ok (.ifCond .ne 6, 3) := by decide +kernel
theorem dX5_leaves_31 : decode cX5_leaves 31 = .ok (.iinc 1 1, 3) := by decide +kernel
theorem dX5_leaves_34 : decode cX5_leaves 34 = .ok (.iinc 2 1, 3) := by decide +kernel
theorem dX5_leaves_37 : decode cX5_leaves 37 = .ok (.goto (-22), 3) := by decide +kernel
theorem dX5_leaves_40 : decode cX5_leaves 40 = .ok (.iload_n 1, 1) := by decide +kernel
theorem dX5_leaves_41 : decode cX5_leaves 41 = .ok (.ireturn, 1) := by decide +kernel
theorem dX5_nodeAt_0 : decode cX5_nodeAt 0 = .ok (.aload_n 0, 1) := by decide +kernel
theorem dX5_nodeAt_1 : decode cX5_nodeAt 1 = .ok (.aload_n 0, 1) := by decide +kernel
theorem dX5_nodeAt_2 : decode cX5_nodeAt 2 = .ok (.getfield 15, 3) := by decide +kernel
theorem dX5_nodeAt_5 : decode cX5_nodeAt 5 = .ok (.getfield 56, 3) := by decide +kernel
theorem dX5_nodeAt_8 : decode cX5_nodeAt 8 = .ok (.invokevirtual 59, 3) := by decide +kernel
theorem dX5_nodeAt_11 : decode cX5_nodeAt 11 = .ok (.iconst 0, 1) := by decide +kernel
theorem dX5_nodeAt_12 : decode cX5_nodeAt 12 = .ok (.istore_n 3, 1) := by decide +kernel
theorem dX5_nodeAt_13 : decode cX5_nodeAt 13 = .ok (.iconst 0, 1) := by decide +kernel
theorem dX5_nodeAt_14 : decode cX5_nodeAt 14 = .ok (.istore 4, 2) := by decide +kernel
theorem dX5_nodeAt_16 : decode cX5_nodeAt 16 = .ok (.iload 4, 2) := by decide +kernel
theorem dX5_nodeAt_18 : decode cX5_nodeAt 18 = .ok (.aload_n 0, 1) := by decide +kernel
theorem dX5_nodeAt_19 : decode cX5_nodeAt 19 = .ok (.getfield 19, 3) := by decide +kernel
theorem dX5_nodeAt_22 : decode cX5_nodeAt 22 = .ok (.if_icmp .ge 34, 3) := by decide +kernel
theorem dX5_nodeAt_25 : decode cX5_nodeAt 25 = .ok (.aload_n 0, 1) := by decide +kernel
theorem dX5_nodeAt_26 : decode cX5_nodeAt 26 = .ok (.iload 4, 2) := by decide +kernel
theorem dX5_nodeAt_28 : decode cX5_nodeAt 28 = .ok (.invokevirtual 62, 3) := by decide +kernel
theorem dX5_nodeAt_31 : decode cX5_nodeAt 31 = .ok (.iload_n 1, 1) := by decide +kernel
theorem dX5_nodeAt_32 : decode cX5_nodeAt 32 = .ok (.if_icmp .ne 18, 3) := by decide +kernel
theorem dX5_nodeAt_35 : decode cX5_nodeAt 35 = .ok (.iload_n 3, 1) := by decide +kernel
theorem dX5_nodeAt_36 : decode cX5_nodeAt 36 = .ok (.iload_n 2, 1) := by decide +kernel
theorem dX5_nodeAt_37 : decode cX5_nodeAt 37 = .ok (.if_icmp .ne 10, 3) := by decide +kernel
theorem dX5_nodeAt_40 : decode cX5_nodeAt 40 = .ok (.aload_n 0, 1) := by decide +kernel
theorem dX5_nodeAt_41 : decode cX5_nodeAt 41 = .ok (.iload 4, 2) := by decide +kernel
theorem dX5_nodeAt_43 : decode cX5_nodeAt 43 = .ok (.invokevirtual 53, 3) := by decide +kernel
theorem dX5_nodeAt_46 : decode cX5_nodeAt 46 = .ok (.ireturn, 1) := by decide +kernel
theorem dX5_nodeAt_47 : decode cX5_nodeAt 47 = .ok (.iinc 3 1, 3) := by decide +kernel
theorem dX5_nodeAt_50 : decode cX5_nodeAt 50 = .ok (.iinc 4 1, 3) := by decide +kernel
theorem dX5_nodeAt_53 : decode cX5_nodeAt 53 = .ok (.goto (-37), 3) := by decide +kernel
theorem dX5_nodeAt_56 : decode cX5_nodeAt 56 = .ok (.iconst (-1), 1) := by decide +kernel
theorem dX5_nodeAt_57 : decode cX5_nodeAt 57 = .ok (.ireturn, 1) := by decide +kernel
theorem dX5_placeOf_0 : decode cX5_placeOf 0 = .ok (.aload_n 0, 1) := by decide +kernel
theorem dX5_placeOf_1 : decode cX5_placeOf 1 = .ok (.aload_n 0, 1) := by decide +kernel
theorem dX5_placeOf_2 : decode cX5_placeOf 2 = .ok (.getfield 15, 3) := by decide +kernel
theorem dX5_placeOf_5 : decode cX5_placeOf 5 = .ok (.getfield 56, 3) := by decide +kernel
theorem dX5_placeOf_8 : decode cX5_placeOf 8 = .ok (.invokevirtual 59, 3) := by decide +kernel
theorem dX5_placeOf_11 : decode cX5_placeOf 11 = .ok (.aload_n 0, 1) := by decide +kernel
theorem dX5_placeOf_12 : decode cX5_placeOf 12 = .ok (.getfield 15, 3) := by decide +kernel
theorem dX5_placeOf_15 : decode cX5_placeOf 15 = .ok (.iload_n 1, 1) := by decide +kernel
theorem dX5_placeOf_16 : decode cX5_placeOf 16 = .ok (.invokevirtual 33, 3) := by decide +kernel
theorem dX5_placeOf_19 : decode cX5_placeOf 19 = .ok (.istore_n 2, 1) := by decide +kernel
theorem dX5_placeOf_20 : decode cX5_placeOf 20 = .ok (.iconst 0, 1) := by decide +kernel
theorem dX5_placeOf_21 : decode cX5_placeOf 21 = .ok (.istore_n 3, 1) := by decide +kernel
theorem dX5_placeOf_22 : decode cX5_placeOf 22 = .ok (.iconst 0, 1) := by decide +kernel
theorem dX5_placeOf_23 : decode cX5_placeOf 23 = .ok (.istore 4, 2) := by decide +kernel
theorem dX5_placeOf_25 : decode cX5_placeOf 25 = .ok (.iload 4, 2) := by decide +kernel
theorem dX5_placeOf_27 : decode cX5_placeOf 27 = .ok (.aload_n 0, 1) := by decide +kernel
theorem dX5_placeOf_28 : decode cX5_placeOf 28 = .ok (.getfield 19, 3) := by decide +kernel
theorem dX5_placeOf_31 : decode cX5_placeOf 31 = .ok (.if_icmp .ge 32, 3) := by decide +kernel
theorem dX5_placeOf_34 : decode cX5_placeOf 34 = .ok (.aload_n 0, 1) := by decide +kernel
theorem dX5_placeOf_35 : decode cX5_placeOf 35 = .ok (.iload 4, 2) := by decide +kernel
theorem dX5_placeOf_37 : decode cX5_placeOf 37 = .ok (.invokevirtual 53, 3) := by decide +kernel
theorem dX5_placeOf_40 : decode cX5_placeOf 40 = .ok (.iload_n 1, 1) := by decide +kernel
theorem dX5_placeOf_41 : decode cX5_placeOf 41 = .ok (.if_icmp .eq 22, 3) := by decide +kernel
theorem dX5_placeOf_44 : decode cX5_placeOf 44 = .ok (.aload_n 0, 1) := by decide +kernel
theorem dX5_placeOf_45 : decode cX5_placeOf 45 = .ok (.iload 4, 2) := by decide +kernel
theorem dX5_placeOf_47 : decode cX5_placeOf 47 = .ok (.invokevirtual 62, 3) := by decide +kernel
theorem dX5_placeOf_50 : decode cX5_placeOf 50 = .ok (.iload_n 2, 1) := by decide +kernel
theorem dX5_placeOf_51 : decode cX5_placeOf 51 = .ok (.if_icmp .ne 6, 3) := by decide +kernel
theorem dX5_placeOf_54 : decode cX5_placeOf 54 = .ok (.iinc 3 1, 3) := by decide +kernel
theorem dX5_placeOf_57 : decode cX5_placeOf 57 = .ok (.iinc 4 1, 3) := by decide +kernel
theorem dX5_placeOf_60 : decode cX5_placeOf 60 = .ok (.goto (-35), 3) := by decide +kernel
theorem dX5_placeOf_63 : decode cX5_placeOf 63 = .ok (.iload_n 3, 1) := by decide +kernel
theorem dX5_placeOf_64 : decode cX5_placeOf 64 = .ok (.ireturn, 1) := by decide +kernel
theorem dX5_overlapsOf_0 : decode cX5_overlapsOf 0 = .ok (.aload_n 0, 1) := by decide +kernel
theorem dX5_overlapsOf_1 : decode cX5_overlapsOf 1 = .ok (.aload_n 0, 1) := by decide +kernel
theorem dX5_overlapsOf_2 : decode cX5_overlapsOf 2 = .ok (.getfield 15, 3) := by decide +kernel
theorem dX5_overlapsOf_5 : decode cX5_overlapsOf 5 = .ok (.getfield 56, 3) := by decide +kernel
theorem dX5_overlapsOf_8 : decode cX5_overlapsOf 8 = .ok (.invokevirtual 59, 3) := by decide +kernel
theorem dX5_overlapsOf_11 : decode cX5_overlapsOf 11 = .ok (.iconst 0, 1) := by decide +kernel
theorem dX5_overlapsOf_12 : decode cX5_overlapsOf 12 = .ok (.istore_n 2, 1) := by decide +kernel
theorem dX5_overlapsOf_13 : decode cX5_overlapsOf 13 = .ok (.iconst 0, 1) := by decide +kernel
theorem dX5_overlapsOf_14 : decode cX5_overlapsOf 14 = .ok (.istore_n 3, 1) := by decide +kernel
theorem dX5_overlapsOf_15 : decode cX5_overlapsOf 15 = .ok (.iload_n 3, 1) := by decide +kernel
theorem dX5_overlapsOf_16 : decode cX5_overlapsOf 16 = .ok (.aload_n 0, 1) := by decide +kernel
theorem dX5_overlapsOf_17 : decode cX5_overlapsOf 17 = .ok (.getfield 19, 3) := by decide +kernel
theorem dX5_overlapsOf_20 : decode cX5_overlapsOf 20 = .ok (.if_icmp .ge 65, 3) := by decide +kernel
theorem dX5_overlapsOf_23 : decode cX5_overlapsOf 23 = .ok (.iload_n 3, 1) := by decide +kernel
theorem dX5_overlapsOf_24 : decode cX5_overlapsOf 24 = .ok (.iconst 1, 1) := by decide +kernel
theorem dX5_overlapsOf_25 : decode cX5_overlapsOf 25 = .ok (.iadd, 1) := by decide +kernel
theorem dX5_overlapsOf_26 : decode cX5_overlapsOf 26 = .ok (.istore 4, 2) := by decide +kernel
theorem dX5_overlapsOf_28 : decode cX5_overlapsOf 28 = .ok (.iload 4, 2) := by decide +kernel
theorem dX5_overlapsOf_30 : decode cX5_overlapsOf 30 = .ok (.aload_n 0, 1) := by decide +kernel
theorem dX5_overlapsOf_31 : decode cX5_overlapsOf 31 = .ok (.getfield 19, 3) := by decide +kernel
theorem dX5_overlapsOf_34 : decode cX5_overlapsOf 34 = .ok (.if_icmp .ge 45, 3) := by decide +kernel
theorem dX5_overlapsOf_37 : decode cX5_overlapsOf 37 = .ok (.aload_n 0, 1) := by decide +kernel
theorem dX5_overlapsOf_38 : decode cX5_overlapsOf 38 = .ok (.iload_n 3, 1) := by decide +kernel
theorem dX5_overlapsOf_39 : decode cX5_overlapsOf 39 = .ok (.invokevirtual 62, 3) := by decide +kernel
theorem dX5_overlapsOf_42 : decode cX5_overlapsOf 42 = .ok (.iload_n 1, 1) := by decide +kernel
theorem dX5_overlapsOf_43 : decode cX5_overlapsOf 43 = .ok (.if_icmp .ne 36, 3) := by decide +kernel
theorem dX5_overlapsOf_46 : decode cX5_overlapsOf 46 = .ok (.aload_n 0, 1) := by decide +kernel
theorem dX5_overlapsOf_47 : decode cX5_overlapsOf 47 = .ok (.iload 4, 2) := by decide +kernel
theorem dX5_overlapsOf_49 : decode cX5_overlapsOf 49 = .ok (.invokevirtual 62, 3) := by decide +kernel
theorem dX5_overlapsOf_52 : decode cX5_overlapsOf 52 = .ok (.iload_n 1, 1) := by decide +kernel
theorem dX5_overlapsOf_53 : decode cX5_overlapsOf 53 = .ok (.if_icmp .ne 20, 3) := by decide +kernel
theorem dX5_overlapsOf_56 : decode cX5_overlapsOf 56 = .ok (.iload_n 2, 1) := by decide +kernel
theorem dX5_overlapsOf_57 : decode cX5_overlapsOf 57 = .ok (.aload_n 0, 1) := by decide +kernel
theorem dX5_overlapsOf_58 : decode cX5_overlapsOf 58 = .ok (.iload_n 3, 1) := by decide +kernel
theorem dX5_overlapsOf_59 : decode cX5_overlapsOf 59 = .ok (.invokevirtual 65, 3) := by decide +kernel
theorem dX5_overlapsOf_62 : decode cX5_overlapsOf 62 = .ok (.aload_n 0, 1) := by decide +kernel
theorem dX5_overlapsOf_63 : decode cX5_overlapsOf 63 = .ok (.iload 4, 2) := by decide +kernel
theorem dX5_overlapsOf_65 : decode cX5_overlapsOf 65 = .ok (.invokevirtual 65, 3) := by decide +kernel
theorem dX5_overlapsOf_68 : decode cX5_overlapsOf 68 = .ok (.invokestatic 68, 3) := by decide +kernel
theorem dX5_overlapsOf_71 : decode cX5_overlapsOf 71 = .ok (.iadd, 1) := by decide +kernel
theorem dX5_overlapsOf_72 : decode cX5_overlapsOf 72 = .ok (.istore_n 2, 1) := by decide +kernel
theorem dX5_overlapsOf_73 : decode cX5_overlapsOf 73 = .ok (.iinc 4 1, 3) := by decide +kernel
theorem dX5_overlapsOf_76 : decode cX5_overlapsOf 76 = .ok (.goto (-48), 3) := by decide +kernel
theorem dX5_overlapsOf_79 : decode cX5_overlapsOf 79 = .ok (.iinc 3 1, 3) := by decide +kernel
theorem dX5_overlapsOf_82 : decode cX5_overlapsOf 82 = .ok (.goto (-67), 3) := by decide +kernel
theorem dX5_overlapsOf_85 : decode cX5_overlapsOf 85 = .ok (.iload_n 2, 1) := by decide +kernel
theorem dX5_overlapsOf_86 : decode cX5_overlapsOf 86 = .ok (.ireturn, 1) := by decide +kernel
theorem dX5_areaOfLeaves_0 : decode cX5_areaOfLeaves 0 = .ok (.aload_n 0, 1) := by decide +kernel
theorem dX5_areaOfLeaves_1 : decode cX5_areaOfLeaves 1 = .ok (.aload_n 0, 1) := by decide +kernel
theorem dX5_areaOfLeaves_2 : decode cX5_areaOfLeaves 2 = .ok (.getfield 15, 3) := by decide +kernel
theorem dX5_areaOfLeaves_5 : decode cX5_areaOfLeaves 5 = .ok (.getfield 56, 3) := by decide +kernel
theorem dX5_areaOfLeaves_8 : decode cX5_areaOfLeaves 8 = .ok (.invokevirtual 59, 3) := by decide +kernel
theorem dX5_areaOfLeaves_11 : decode cX5_areaOfLeaves 11 = .ok (.iconst 0, 1) := by decide +kernel
theorem dX5_areaOfLeaves_12 : decode cX5_areaOfLeaves 12 = .ok (.istore_n 1, 1) := by decide +kernel
theorem dX5_areaOfLeaves_13 : decode cX5_areaOfLeaves 13 = .ok (.iconst 0, 1) := by decide +kernel
theorem dX5_areaOfLeaves_14 : decode cX5_areaOfLeaves 14 = .ok (.istore_n 2, 1) := by decide +kernel
theorem dX5_areaOfLeaves_15 : decode cX5_areaOfLeaves 15 = .ok (.iload_n 2, 1) := by decide +kernel
theorem dX5_areaOfLeaves_16 : decode cX5_areaOfLeaves 16 = .ok (.aload_n 0, 1) := by decide +kernel
theorem dX5_areaOfLeaves_17 : decode cX5_areaOfLeaves 17 = .ok (.getfield 19, 3) := by decide +kernel
theorem dX5_areaOfLeaves_20 : decode cX5_areaOfLeaves 20 = .ok (.if_icmp .ge 28, 3) := by decide +kernel
theorem dX5_areaOfLeaves_23 : decode cX5_areaOfLeaves 23 = .ok (.aload_n 0, 1) := by decide +kernel
theorem dX5_areaOfLeaves_24 : decode cX5_areaOfLeaves 24 = .ok (.iload_n 2, 1) := by decide +kernel
theorem dX5_areaOfLeaves_25 : decode cX5_areaOfLeaves 25 = .ok (.invokevirtual 62, 3) := by decide +kernel
theorem dX5_areaOfLeaves_28 : decode cX5_areaOfLeaves 28 = .ok (.ifCond .ne 14, 3) := by decide +kernel
theorem dX5_areaOfLeaves_31 : decode cX5_areaOfLeaves 31 = .ok (.iload_n 1, 1) := by decide +kernel
theorem dX5_areaOfLeaves_32 : decode cX5_areaOfLeaves 32 = .ok (.aload_n 0, 1) := by decide +kernel
theorem dX5_areaOfLeaves_33 : decode cX5_areaOfLeaves 33 = .ok (.iload_n 2, 1) := by decide +kernel
theorem dX5_areaOfLeaves_34 : decode cX5_areaOfLeaves 34 = .ok (.invokevirtual 65, 3) := by decide +kernel
theorem dX5_areaOfLeaves_37 : decode cX5_areaOfLeaves 37 = .ok (.invokestatic 73, 3) := by decide +kernel
theorem dX5_areaOfLeaves_40 : decode cX5_areaOfLeaves 40 = .ok (.iadd, 1) := by decide +kernel
theorem dX5_areaOfLeaves_41 : decode cX5_areaOfLeaves 41 = .ok (.istore_n 1, 1) := by decide +kernel
theorem dX5_areaOfLeaves_42 : decode cX5_areaOfLeaves 42 = .ok (.iinc 2 1, 3) := by decide +kernel
theorem dX5_areaOfLeaves_45 : decode cX5_areaOfLeaves 45 = .ok (.goto (-30), 3) := by decide +kernel
theorem dX5_areaOfLeaves_48 : decode cX5_areaOfLeaves 48 = .ok (.iload_n 1, 1) := by decide +kernel
theorem dX5_areaOfLeaves_49 : decode cX5_areaOfLeaves 49 = .ok (.ireturn, 1) := by decide +kernel
theorem dX5_nodesTouching_0 : decode cX5_nodesTouching 0 = .ok (.aload_n 0, 1) := by decide +kernel
theorem dX5_nodesTouching_1 : decode cX5_nodesTouching 1 = .ok (.aload_n 0, 1) := by decide +kernel
theorem dX5_nodesTouching_2 : decode cX5_nodesTouching 2 = .ok (.getfield 15, 3) := by decide +kernel
theorem dX5_nodesTouching_5 : decode cX5_nodesTouching 5 = .ok (.getfield 56, 3) := by decide +kernel
theorem dX5_nodesTouching_8 : decode cX5_nodesTouching 8 = .ok (.invokevirtual 59, 3) := by decide +kernel
theorem dX5_nodesTouching_11 : decode cX5_nodesTouching 11 = .ok (.iconst 0, 1) := by decide +kernel
theorem dX5_nodesTouching_12 : decode cX5_nodesTouching 12 = .ok (.istore_n 2, 1) := by decide +kernel
theorem dX5_nodesTouching_13 : decode cX5_nodesTouching 13 = .ok (.iconst 0, 1) := by decide +kernel
theorem dX5_nodesTouching_14 : decode cX5_nodesTouching 14 = .ok (.istore_n 3, 1) := by decide +kernel
theorem dX5_nodesTouching_15 : decode cX5_nodesTouching 15 = .ok (.iload_n 3, 1) := by decide +kernel
theorem dX5_nodesTouching_16 : decode cX5_nodesTouching 16 = .ok (.aload_n 0, 1) := by decide +kernel
theorem dX5_nodesTouching_17 : decode cX5_nodesTouching 17 = .ok (.getfield 19, 3) := by decide +kernel
theorem dX5_nodesTouching_20 : decode cX5_nodesTouching 20 = .ok (.if_icmp .ge 24, 3) := by decide +kernel
theorem dX5_nodesTouching_23 : decode cX5_nodesTouching 23 = .ok (.aload_n 0, 1) := by decide +kernel
theorem dX5_nodesTouching_24 : decode cX5_nodesTouching 24 = .ok (.iload_n 3, 1) := by decide +kernel
theorem dX5_nodesTouching_25 : decode cX5_nodesTouching 25 = .ok (.invokevirtual 65, 3) := by decide +kernel
theorem dX5_nodesTouching_28 : decode cX5_nodesTouching 28 = .ok (.iload_n 1, 1) := by decide +kernel
theorem dX5_nodesTouching_29 : decode cX5_nodesTouching 29 = .ok (.invokestatic 76, 3) := by decide +kernel
theorem dX5_nodesTouching_32 : decode cX5_nodesTouching 32 = .ok (.ifCond .eq 6, 3) := by decide +kernel
theorem dX5_nodesTouching_35 : decode cX5_nodesTouching 35 = .ok (.iinc 2 1, 3) := by decide +kernel
theorem dX5_nodesTouching_38 : decode cX5_nodesTouching 38 = .ok (.iinc 3 1, 3) := by decide +kernel
theorem dX5_nodesTouching_41 : decode cX5_nodesTouching 41 = .ok (.goto (-26), 3) := by decide +kernel
theorem dX5_nodesTouching_44 : decode cX5_nodesTouching 44 = .ok (.iload_n 2, 1) := by decide +kernel
theorem dX5_nodesTouching_45 : decode cX5_nodesTouching 45 = .ok (.ireturn, 1) := by decide +kernel
theorem dX5_nodesWithin_0 : decode cX5_nodesWithin 0 = .ok (.aload_n 0, 1) := by decide +kernel
theorem dX5_nodesWithin_1 : decode cX5_nodesWithin 1 = .ok (.aload_n 0, 1) := by decide +kernel
theorem dX5_nodesWithin_2 : decode cX5_nodesWithin 2 = .ok (.getfield 15, 3) := by decide +kernel
theorem dX5_nodesWithin_5 : decode cX5_nodesWithin 5 = .ok (.getfield 56, 3) := by decide +kernel
theorem dX5_nodesWithin_8 : decode cX5_nodesWithin 8 = .ok (.invokevirtual 59, 3) := by decide +kernel
theorem dX5_nodesWithin_11 : decode cX5_nodesWithin 11 = .ok (.iconst 0, 1) := by decide +kernel
theorem dX5_nodesWithin_12 : decode cX5_nodesWithin 12 = .ok (.istore 4, 2) := by decide +kernel
theorem dX5_nodesWithin_14 : decode cX5_nodesWithin 14 = .ok (.iconst 0, 1) := by decide +kernel
theorem dX5_nodesWithin_15 : decode cX5_nodesWithin 15 = .ok (.istore 5, 2) := by decide +kernel
theorem dX5_nodesWithin_17 : decode cX5_nodesWithin 17 = .ok (.iload 5, 2) := by decide +kernel
theorem dX5_nodesWithin_19 : decode cX5_nodesWithin 19 = .ok (.aload_n 0, 1) := by decide +kernel
theorem dX5_nodesWithin_20 : decode cX5_nodesWithin 20 = .ok (.getfield 19, 3) := by decide +kernel
theorem dX5_nodesWithin_23 : decode cX5_nodesWithin 23 = .ok (.if_icmp .ge 37, 3) := by decide +kernel
theorem dX5_nodesWithin_26 : decode cX5_nodesWithin 26 = .ok (.aload_n 0, 1) := by decide +kernel
theorem dX5_nodesWithin_27 : decode cX5_nodesWithin 27 = .ok (.iload 5, 2) := by decide +kernel
theorem dX5_nodesWithin_29 : decode cX5_nodesWithin 29 = .ok (.invokevirtual 65, 3) := by decide +kernel
theorem dX5_nodesWithin_32 : decode cX5_nodesWithin 32 = .ok (.iconst (-1), 1) := by decide +kernel
theorem dX5_nodesWithin_33 : decode cX5_nodesWithin 33 = .ok (.if_icmp .eq 21, 3) := by decide +kernel
theorem dX5_nodesWithin_36 : decode cX5_nodesWithin 36 = .ok (.aload_n 0, 1) := by decide +kernel
theorem dX5_nodesWithin_37 : decode cX5_nodesWithin 37 = .ok (.iload 5, 2) := by decide +kernel
theorem dX5_nodesWithin_39 : decode cX5_nodesWithin 39 = .ok (.invokevirtual 65, 3) := by decide +kernel
theorem dX5_nodesWithin_42 : decode cX5_nodesWithin 42 = .ok (.iload_n 1, 1) := by decide +kernel
theorem dX5_nodesWithin_43 : decode cX5_nodesWithin 43 = .ok (.iload_n 2, 1) := by decide +kernel
theorem dX5_nodesWithin_44 : decode cX5_nodesWithin 44 = .ok (.invokestatic 80, 3) := by decide +kernel
theorem dX5_nodesWithin_47 : decode cX5_nodesWithin 47 = .ok (.iload_n 3, 1) := by decide +kernel
theorem dX5_nodesWithin_48 : decode cX5_nodesWithin 48 = .ok (.if_icmp .gt 6, 3) := by decide +kernel
theorem dX5_nodesWithin_51 : decode cX5_nodesWithin 51 = .ok (.iinc 4 1, 3) := by decide +kernel
theorem dX5_nodesWithin_54 : decode cX5_nodesWithin 54 = .ok (.iinc 5 1, 3) := by decide +kernel
theorem dX5_nodesWithin_57 : decode cX5_nodesWithin 57 = .ok (.goto (-40), 3) := by decide +kernel
theorem dX5_nodesWithin_60 : decode cX5_nodesWithin 60 = .ok (.iload 4, 2) := by decide +kernel
theorem dX5_nodesWithin_62 : decode cX5_nodesWithin 62 = .ok (.ireturn, 1) := by decide +kernel
theorem dX5_boxesBelow_0 : decode cX5_boxesBelow 0 = .ok (.aload_n 0, 1) := by decide +kernel
theorem dX5_boxesBelow_1 : decode cX5_boxesBelow 1 = .ok (.iload_n 1, 1) := by decide +kernel
theorem dX5_boxesBelow_2 : decode cX5_boxesBelow 2 = .ok (.invokevirtual 59, 3) := by decide +kernel
theorem dX5_boxesBelow_5 : decode cX5_boxesBelow 5 = .ok (.iconst 0, 1) := by decide +kernel
theorem dX5_boxesBelow_6 : decode cX5_boxesBelow 6 = .ok (.istore_n 2, 1) := by decide +kernel
theorem dX5_boxesBelow_7 : decode cX5_boxesBelow 7 = .ok (.iconst 0, 1) := by decide +kernel
theorem dX5_boxesBelow_8 : decode cX5_boxesBelow 8 = .ok (.istore_n 3, 1) := by decide +kernel
theorem dX5_boxesBelow_9 : decode cX5_boxesBelow 9 = .ok (.iload_n 3, 1) := by decide +kernel
theorem dX5_boxesBelow_10 : decode cX5_boxesBelow 10 = .ok (.aload_n 0, 1) := by decide +kernel
theorem dX5_boxesBelow_11 : decode cX5_boxesBelow 11 = .ok (.getfield 19, 3) := by decide +kernel
theorem dX5_boxesBelow_14 : decode cX5_boxesBelow 14 = .ok (.if_icmp .ge 32, 3) := by decide +kernel
theorem dX5_boxesBelow_17 : decode cX5_boxesBelow 17 = .ok (.aload_n 0, 1) := by decide +kernel
theorem dX5_boxesBelow_18 : decode cX5_boxesBelow 18 = .ok (.iload_n 3, 1) := by decide +kernel
theorem dX5_boxesBelow_19 : decode cX5_boxesBelow 19 = .ok (.invokevirtual 62, 3) := by decide +kernel
theorem dX5_boxesBelow_22 : decode cX5_boxesBelow 22 = .ok (.ifCond .ne 18, 3) := by decide +kernel
theorem dX5_boxesBelow_25 : decode cX5_boxesBelow 25 = .ok (.iload_n 2, 1) := by decide +kernel
theorem dX5_boxesBelow_26 : decode cX5_boxesBelow 26 = .ok (.aload_n 0, 1) := by decide +kernel
theorem dX5_boxesBelow_27 : decode cX5_boxesBelow 27 = .ok (.getfield 15, 3) := by decide +kernel
theorem dX5_boxesBelow_30 : decode cX5_boxesBelow 30 = .ok (.aload_n 0, 1) := by decide +kernel
theorem dX5_boxesBelow_31 : decode cX5_boxesBelow 31 = .ok (.iload_n 3, 1) := by decide +kernel
theorem dX5_boxesBelow_32 : decode cX5_boxesBelow 32 = .ok (.invokevirtual 53, 3) := by decide +kernel
theorem dX5_boxesBelow_35 : decode cX5_boxesBelow 35 = .ok (.invokevirtual 39, 3) := by decide +kernel
theorem dX5_boxesBelow_38 : decode cX5_boxesBelow 38 = .ok (.iadd, 1) := by decide +kernel
theorem dX5_boxesBelow_39 : decode cX5_boxesBelow 39 = .ok (.istore_n 2, 1) := by decide +kernel
theorem dX5_boxesBelow_40 : decode cX5_boxesBelow 40 = .ok (.iinc 3 1, 3) := by decide +kernel
theorem dX5_boxesBelow_43 : decode cX5_boxesBelow 43 = .ok (.goto (-34), 3) := by decide +kernel
theorem dX5_boxesBelow_46 : decode cX5_boxesBelow 46 = .ok (.iload_n 2, 1) := by decide +kernel
theorem dX5_boxesBelow_47 : decode cX5_boxesBelow 47 = .ok (.ireturn, 1) := by decide +kernel
theorem dX6_init_0 : decode cX6_init 0 = .ok (.aload_n 0, 1) := by decide +kernel
theorem dX6_init_1 : decode cX6_init 1 = .ok (.invokespecial 3, 3) := by decide +kernel
theorem dX6_init_4 : decode cX6_init 4 = .ok (.aload_n 0, 1) := by decide +kernel
theorem dX6_init_5 : decode cX6_init 5 = .ok (.bipush 31, 2) := by decide +kernel
theorem dX6_init_7 : decode cX6_init 7 = .ok (.newarray .int, 2) := by decide +kernel
theorem dX6_init_9 : decode cX6_init 9 = .ok (.putfield 9, 3) := by decide +kernel
theorem dX6_init_12 : decode cX6_init 12 = .ok (.aload_n 0, 1) := by decide +kernel
theorem dX6_init_13 : decode cX6_init 13 = .ok (.bipush 31, 2) := by decide +kernel
theorem dX6_init_15 : decode cX6_init 15 = .ok (.newarray .int, 2) := by decide +kernel
theorem dX6_init_17 : decode cX6_init 17 = .ok (.putfield 15, 3) := by decide +kernel
theorem dX6_init_20 : decode cX6_init 20 = .ok (.aload_n 0, 1) := by decide +kernel
theorem dX6_init_21 : decode cX6_init 21 = .ok (.bipush 32, 2) := by decide +kernel
theorem dX6_init_23 : decode cX6_init 23 = .ok (.newarray .int, 2) := by decide +kernel
theorem dX6_init_25 : decode cX6_init 25 = .ok (.putfield 18, 3) := by decide +kernel
theorem dX6_init_28 : decode cX6_init 28 = .ok (.aload_n 0, 1) := by decide +kernel
theorem dX6_init_29 : decode cX6_init 29 = .ok (.bipush 32, 2) := by decide +kernel
theorem dX6_init_31 : decode cX6_init 31 = .ok (.newarray .int, 2) := by decide +kernel
theorem dX6_init_33 : decode cX6_init 33 = .ok (.putfield 21, 3) := by decide +kernel
theorem dX6_init_36 : decode cX6_init 36 = .ok (.aload_n 0, 1) := by decide +kernel
theorem dX6_init_37 : decode cX6_init 37 = .ok (.bipush 32, 2) := by decide +kernel
theorem dX6_init_39 : decode cX6_init 39 = .ok (.newarray .int, 2) := by decide +kernel
theorem dX6_init_41 : decode cX6_init 41 = .ok (.putfield 24, 3) := by decide +kernel
theorem dX6_init_44 : decode cX6_init 44 = .ok (.aload_n 0, 1) := by decide +kernel
theorem dX6_init_45 : decode cX6_init 45 = .ok (.bipush 32, 2) := by decide +kernel
theorem dX6_init_47 : decode cX6_init 47 = .ok (.newarray .int, 2) := by decide +kernel
theorem dX6_init_49 : decode cX6_init 49 = .ok (.putfield 27, 3) := by decide +kernel
theorem dX6_init_52 : decode cX6_init 52 = .ok (.aload_n 0, 1) := by decide +kernel
theorem dX6_init_53 : decode cX6_init 53 = .ok (.sipush 160, 3) := by decide +kernel
theorem dX6_init_56 : decode cX6_init 56 = .ok (.newarray .int, 2) := by decide +kernel
theorem dX6_init_58 : decode cX6_init 58 = .ok (.putfield 30, 3) := by decide +kernel
theorem dX6_init_61 : decode cX6_init 61 = .ok (.aload_n 0, 1) := by decide +kernel
theorem dX6_init_62 : decode cX6_init 62 = .ok (.getfield 9, 3) := by decide +kernel
theorem dX6_init_65 : decode cX6_init 65 = .ok (.iconst (-1), 1) := by decide +kernel
theorem dX6_init_66 : decode cX6_init 66 = .ok (.invokestatic 33, 3) := by decide +kernel
theorem dX6_init_69 : decode cX6_init 69 = .ok (.aload_n 0, 1) := by decide +kernel
theorem dX6_init_70 : decode cX6_init 70 = .ok (.getfield 15, 3) := by decide +kernel
theorem dX6_init_73 : decode cX6_init 73 = .ok (.iconst (-1), 1) := by decide +kernel
theorem dX6_init_74 : decode cX6_init 74 = .ok (.invokestatic 33, 3) := by decide +kernel
theorem dX6_init_77 : decode cX6_init 77 = .ok (.aload_n 0, 1) := by decide +kernel
theorem dX6_init_78 : decode cX6_init 78 = .ok (.getfield 18, 3) := by decide +kernel
theorem dX6_init_81 : decode cX6_init 81 = .ok (.iconst (-1), 1) := by decide +kernel
theorem dX6_init_82 : decode cX6_init 82 = .ok (.invokestatic 33, 3) := by decide +kernel
theorem dX6_init_85 : decode cX6_init 85 = .ok (.aload_n 0, 1) := by decide +kernel
theorem dX6_init_86 : decode cX6_init 86 = .ok (.getfield 24, 3) := by decide +kernel
theorem dX6_init_89 : decode cX6_init 89 = .ok (.iconst (-1), 1) := by decide +kernel
theorem dX6_init_90 : decode cX6_init 90 = .ok (.invokestatic 33, 3) := by decide +kernel
theorem dX6_init_93 : decode cX6_init 93 = .ok (.aload_n 0, 1) := by decide +kernel
theorem dX6_init_94 : decode cX6_init 94 = .ok (.getfield 27, 3) := by decide +kernel
theorem dX6_init_97 : decode cX6_init 97 = .ok (.iconst (-1), 1) := by decide +kernel
theorem dX6_init_98 : decode cX6_init 98 = .ok (.invokestatic 33, 3) := by decide +kernel
theorem dX6_init_101 : decode cX6_init 101 = .ok (.aload_n 0, 1) := by decide +kernel
theorem dX6_init_102 : decode cX6_init 102 = .ok (.getfield 30, 3) := by decide +kernel
theorem dX6_init_105 : decode cX6_init 105 = .ok (.iconst (-1), 1) := by decide +kernel
theorem dX6_init_106 : decode cX6_init 106 = .ok (.invokestatic 33, 3) := by decide +kernel
theorem dX6_init_109 : decode cX6_init 109 = .ok (.aload_n 0, 1) := by decide +kernel
theorem dX6_init_110 : decode cX6_init 110 = .ok (.aload_n 0, 1) := by decide +kernel
theorem dX6_init_111 : decode cX6_init 111 = .ok (.iconst 0, 1) := by decide +kernel
theorem dX6_init_112 : decode cX6_init 112 = .ok (.invokevirtual 39, 3) := by decide +kernel
theorem dX6_init_115 : decode cX6_init 115 = .ok (.putfield 43, 3) := by decide +kernel
theorem dX6_init_118 : decode cX6_init 118 = .ok (.return_, 1) := by decide +kernel
theorem dX6_copy_0 : decode cX6_copy 0 = .ok (.aload_n 1, 1) := by decide +kernel
theorem dX6_copy_1 : decode cX6_copy 1 = .ok (.getfield 9, 3) := by decide +kernel
theorem dX6_copy_4 : decode cX6_copy 4 = .ok (.iconst 0, 1) := by decide +kernel
theorem dX6_copy_5 : decode cX6_copy 5 = .ok (.aload_n 0, 1) := by decide +kernel
theorem dX6_copy_6 : decode cX6_copy 6 = .ok (.getfield 9, 3) := by decide +kernel
theorem dX6_copy_9 : decode cX6_copy 9 = .ok (.iconst 0, 1) := by decide +kernel
theorem dX6_copy_10 : decode cX6_copy 10 = .ok (.bipush 31, 2) := by decide +kernel
theorem dX6_copy_12 : decode cX6_copy 12 = .ok (.invokestatic 47, 3) := by decide +kernel
theorem dX6_copy_15 : decode cX6_copy 15 = .ok (.aload_n 1, 1) := by decide +kernel
theorem dX6_copy_16 : decode cX6_copy 16 = .ok (.getfield 15, 3) := by decide +kernel
theorem dX6_copy_19 : decode cX6_copy 19 = .ok (.iconst 0, 1) := by decide +kernel
theorem dX6_copy_20 : decode cX6_copy 20 = .ok (.aload_n 0, 1) := by decide +kernel
theorem dX6_copy_21 : decode cX6_copy 21 = .ok (.getfield 15, 3) := by decide +kernel
theorem dX6_copy_24 : decode cX6_copy 24 = .ok (.iconst 0, 1) := by decide +kernel
theorem dX6_copy_25 : decode cX6_copy 25 = .ok (.bipush 31, 2) := by decide +kernel
theorem dX6_copy_27 : decode cX6_copy 27 = .ok (.invokestatic 47, 3) := by decide +kernel
theorem dX6_copy_30 : decode cX6_copy 30 = .ok (.aload_n 1, 1) := by decide +kernel
theorem dX6_copy_31 : decode cX6_copy 31 = .ok (.getfield 18, 3) := by decide +kernel
theorem dX6_copy_34 : decode cX6_copy 34 = .ok (.iconst 0, 1) := by decide +kernel
theorem dX6_copy_35 : decode cX6_copy 35 = .ok (.aload_n 0, 1) := by decide +kernel
theorem dX6_copy_36 : decode cX6_copy 36 = .ok (.getfield 18, 3) := by decide +kernel
theorem dX6_copy_39 : decode cX6_copy 39 = .ok (.iconst 0, 1) := by decide +kernel
theorem dX6_copy_40 : decode cX6_copy 40 = .ok (.bipush 32, 2) := by decide +kernel
theorem dX6_copy_42 : decode cX6_copy 42 = .ok (.invokestatic 47, 3) := by decide +kernel
theorem dX6_copy_45 : decode cX6_copy 45 = .ok (.aload_n 1, 1) := by decide +kernel
theorem dX6_copy_46 : decode cX6_copy 46 = .ok (.getfield 21, 3) := by decide +kernel
theorem dX6_copy_49 : decode cX6_copy 49 = .ok (.iconst 0, 1) := by decide +kernel
theorem dX6_copy_50 : decode cX6_copy 50 = .ok (.aload_n 0, 1) := by decide +kernel
theorem dX6_copy_51 : decode cX6_copy 51 = .ok (.getfield 21, 3) := by decide +kernel
theorem dX6_copy_54 : decode cX6_copy 54 = .ok (.iconst 0, 1) := by decide +kernel
theorem dX6_copy_55 : decode cX6_copy 55 = .ok (.bipush 32, 2) := by decide +kernel
theorem dX6_copy_57 : decode cX6_copy 57 = .ok (.invokestatic 47, 3) := by decide +kernel
theorem dX6_copy_60 : decode cX6_copy 60 = .ok (.aload_n 1, 1) := by decide +kernel
theorem dX6_copy_61 : decode cX6_copy 61 = .ok (.getfield 24, 3) := by decide +kernel
theorem dX6_copy_64 : decode cX6_copy 64 = .ok (.iconst 0, 1) := by decide +kernel
theorem dX6_copy_65 : decode cX6_copy 65 = .ok (.aload_n 0, 1) := by decide +kernel
theorem dX6_copy_66 : decode cX6_copy 66 = .ok (.getfield 24, 3) := by decide +kernel
theorem dX6_copy_69 : decode cX6_copy 69 = .ok (.iconst 0, 1) := by decide +kernel
theorem dX6_copy_70 : decode cX6_copy 70 = .ok (.bipush 32, 2) := by decide +kernel
theorem dX6_copy_72 : decode cX6_copy 72 = .ok (.invokestatic 47, 3) := by decide +kernel
theorem dX6_copy_75 : decode cX6_copy 75 = .ok (.aload_n 1, 1) := by decide +kernel
theorem dX6_copy_76 : decode cX6_copy 76 = .ok (.getfield 27, 3) := by decide +kernel
theorem dX6_copy_79 : decode cX6_copy 79 = .ok (.iconst 0, 1) := by decide +kernel
theorem dX6_copy_80 : decode cX6_copy 80 = .ok (.aload_n 0, 1) := by decide +kernel
theorem dX6_copy_81 : decode cX6_copy 81 = .ok (.getfield 27, 3) := by decide +kernel
theorem dX6_copy_84 : decode cX6_copy 84 = .ok (.iconst 0, 1) := by decide +kernel
theorem dX6_copy_85 : decode cX6_copy 85 = .ok (.bipush 32, 2) := by decide +kernel
theorem dX6_copy_87 : decode cX6_copy 87 = .ok (.invokestatic 47, 3) := by decide +kernel
theorem dX6_copy_90 : decode cX6_copy 90 = .ok (.aload_n 1, 1) := by decide +kernel
theorem dX6_copy_91 : decode cX6_copy 91 = .ok (.getfield 30, 3) := by decide +kernel
theorem dX6_copy_94 : decode cX6_copy 94 = .ok (.iconst 0, 1) := by decide +kernel
theorem dX6_copy_95 : decode cX6_copy 95 = .ok (.aload_n 0, 1) := by decide +kernel
theorem dX6_copy_96 : decode cX6_copy 96 = .ok (.getfield 30, 3) := by decide +kernel
theorem dX6_copy_99 : decode cX6_copy 99 = .ok (.iconst 0, 1) := by decide +kernel
theorem dX6_copy_100 : decode cX6_copy 100 = .ok (.sipush 160, 3) := by decide +kernel
theorem dX6_copy_103 : decode cX6_copy 103 = .ok (.invokestatic 47, 3) := by decide +kernel
theorem dX6_copy_106 : decode cX6_copy 106 = .ok (.aload_n 0, 1) := by decide +kernel
theorem dX6_copy_107 : decode cX6_copy 107 = .ok (.aload_n 1, 1) := by decide +kernel
theorem dX6_copy_108 : decode cX6_copy 108 = .ok (.getfield 43, 3) := by decide +kernel
theorem dX6_copy_111 : decode cX6_copy 111 = .ok (.putfield 43, 3) := by decide +kernel
theorem dX6_copy_114 : decode cX6_copy 114 = .ok (.aload_n 0, 1) := by decide +kernel
theorem dX6_copy_115 : decode cX6_copy 115 = .ok (.aload_n 1, 1) := by decide +kernel
theorem dX6_copy_116 : decode cX6_copy 116 = .ok (.getfield 53, 3) := by decide +kernel
theorem dX6_copy_119 : decode cX6_copy 119 = .ok (.putfield 53, 3) := by decide +kernel
theorem dX6_copy_122 : decode cX6_copy 122 = .ok (.aload_n 0, 1) := by decide +kernel
theorem dX6_copy_123 : decode cX6_copy 123 = .ok (.aload_n 1, 1) := by decide +kernel
theorem dX6_copy_124 : decode cX6_copy 124 = .ok (.getfield 56, 3) := by decide +kernel
theorem dX6_copy_127 : decode cX6_copy 127 = .ok (.putfield 56, 3) := by decide +kernel
theorem dX6_copy_130 : decode cX6_copy 130 = .ok (.aload_n 0, 1) := by decide +kernel
theorem dX6_copy_131 : decode cX6_copy 131 = .ok (.aload_n 1, 1) := by decide +kernel
theorem dX6_copy_132 : decode cX6_copy 132 = .ok (.getfield 59, 3) := by decide +kernel
theorem dX6_copy_135 : decode cX6_copy 135 = .ok (.putfield 59, 3) := by decide +kernel
theorem dX6_copy_138 : decode cX6_copy 138 = .ok (.return_, 1) := by decide +kernel
theorem dX6_has_0 : decode cX6_has 0 = .ok (.aload_n 0, 1) := by decide +kernel
theorem dX6_has_1 : decode cX6_has 1 = .ok (.getfield 9, 3) := by decide +kernel
theorem dX6_has_4 : decode cX6_has 4 = .ok (.iload_n 1, 1) := by decide +kernel
theorem dX6_has_5 : decode cX6_has 5 = .ok (.invokestatic 62, 3) := by decide +kernel
theorem dX6_has_8 : decode cX6_has 8 = .ok (.iconst (-1), 1) := by decide +kernel
theorem dX6_has_9 : decode cX6_has 9 = .ok (.if_icmp .eq 7, 3) := by decide +kernel
theorem dX6_has_12 : decode cX6_has 12 = .ok (.iconst 1, 1) := by decide +kernel
theorem dX6_has_13 : decode cX6_has 13 = .ok (.goto 4, 3) := by decide +kernel
theorem dX6_has_16 : decode cX6_has 16 = .ok (.iconst 0, 1) := by decide +kernel
theorem dX6_has_17 : decode cX6_has 17 = .ok (.ireturn, 1) := by decide +kernel
theorem dX6_homeOf_0 : decode cX6_homeOf 0 = .ok (.aload_n 0, 1) := by decide +kernel
theorem dX6_homeOf_1 : decode cX6_homeOf 1 = .ok (.getfield 15, 3) := by decide +kernel
theorem dX6_homeOf_4 : decode cX6_homeOf 4 = .ok (.iload_n 1, 1) := by decide +kernel
theorem dX6_homeOf_5 : decode cX6_homeOf 5 = .ok (.invokestatic 62, 3) := by decide +kernel
theorem dX6_homeOf_8 : decode cX6_homeOf 8 = .ok (.ireturn, 1) := by decide +kernel
theorem dX6_levelOf_0 : decode cX6_levelOf 0 = .ok (.aload_n 0, 1) := by decide +kernel
theorem dX6_levelOf_1 : decode cX6_levelOf 1 = .ok (.getfield 18, 3) := by decide +kernel
theorem dX6_levelOf_4 : decode cX6_levelOf 4 = .ok (.iload_n 1, 1) := by decide +kernel
theorem dX6_levelOf_5 : decode cX6_levelOf 5 = .ok (.invokestatic 62, 3) := by decide +kernel
theorem dX6_levelOf_8 : decode cX6_levelOf 8 = .ok (.ireturn, 1) := by decide +kernel
theorem dX6_sizeOf_0 : decode cX6_sizeOf 0 = .ok (.aload_n 0, 1) := by decide +kernel
theorem dX6_sizeOf_1 : decode cX6_sizeOf 1 = .ok (.getfield 21, 3) := by decide +kernel
theorem dX6_sizeOf_4 : decode cX6_sizeOf 4 = .ok (.iload_n 1, 1) := by decide +kernel
theorem dX6_sizeOf_5 : decode cX6_sizeOf 5 = .ok (.invokestatic 62, 3) := by decide +kernel
theorem dX6_sizeOf_8 : decode cX6_sizeOf 8 = .ok (.ireturn, 1) := by decide +kernel
theorem dX6_aboveOf_0 : decode cX6_aboveOf 0 = .ok (.aload_n 0, 1) := by decide +kernel
theorem dX6_aboveOf_1 : decode cX6_aboveOf 1 = .ok (.getfield 27, 3) := by decide +kernel
theorem dX6_aboveOf_4 : decode cX6_aboveOf 4 = .ok (.iload_n 1, 1) := by decide +kernel
theorem dX6_aboveOf_5 : decode cX6_aboveOf 5 = .ok (.invokestatic 62, 3) := by decide +kernel
theorem dX6_aboveOf_8 : decode cX6_aboveOf 8 = .ok (.ireturn, 1) := by decide +kernel
theorem dX6_height_0 : decode cX6_height 0 = .ok (.aload_n 0, 1) := by decide +kernel
theorem dX6_height_1 : decode cX6_height 1 = .ok (.aload_n 0, 1) := by decide +kernel
theorem dX6_height_2 : decode cX6_height 2 = .ok (.getfield 43, 3) := by decide +kernel
theorem dX6_height_5 : decode cX6_height 5 = .ok (.invokevirtual 68, 3) := by decide +kernel
theorem dX6_height_8 : decode cX6_height 8 = .ok (.iconst 1, 1) := by decide +kernel
theorem dX6_height_9 : decode cX6_height 9 = .ok (.iadd, 1) := by decide +kernel
theorem dX6_height_10 : decode cX6_height 10 = .ok (.ireturn, 1) := by decide +kernel
theorem dX6_thingAt_0 : decode cX6_thingAt 0 = .ok (.iload_n 2, 1) := by decide +kernel
theorem dX6_thingAt_1 : decode cX6_thingAt 1 = .ok (.ifCond .lt 23, 3) := by decide +kernel
theorem dX6_thingAt_4 : decode cX6_thingAt 4 = .ok (.iload_n 2, 1) := by decide +kernel
theorem dX6_thingAt_5 : decode cX6_thingAt 5 = .ok (.iconst 5, 1) := by decide +kernel
theorem dX6_thingAt_6 : decode cX6_thingAt 6 = .ok (.if_icmp .ge 18, 3) := by decide +kernel
theorem dX6_thingAt_9 : decode cX6_thingAt 9 = .ok (.aload_n 0, 1) := by decide +kernel
theorem dX6_thingAt_10 : decode cX6_thingAt 10 = .ok (.getfield 30, 3) := by decide +kernel
theorem dX6_thingAt_13 : decode cX6_thingAt 13 = .ok (.iload_n 1, 1) := by decide +kernel
theorem dX6_thingAt_14 : decode cX6_thingAt 14 = .ok (.iconst 5, 1) := by decide +kernel
theorem dX6_thingAt_15 : decode cX6_thingAt 15 = .ok (.imul, 1) := by decide +kernel
theorem dX6_thingAt_16 : decode cX6_thingAt 16 = .ok (.iload_n 2, 1) := by decide +kernel
theorem dX6_thingAt_17 : decode cX6_thingAt 17 = .ok (.iadd, 1) := by decide +kernel
theorem dX6_thingAt_18 : decode cX6_thingAt 18 = .ok (.invokestatic 62, 3) := by decide +kernel
theorem dX6_thingAt_21 : decode cX6_thingAt 21 = .ok (.goto 4, 3) := by decide +kernel
theorem dX6_thingAt_24 : decode cX6_thingAt 24 = .ok (.iconst (-1), 1) := by decide +kernel
theorem dX6_thingAt_25 : decode cX6_thingAt 25 = .ok (.ireturn, 1) := by decide +kernel
theorem dX6_hull_0 : decode cX6_hull 0 = .ok (.iload_n 2, 1) := by decide +kernel
theorem dX6_hull_1 : decode cX6_hull 1 = .ok (.ifCond .ne 10, 3) := by decide +kernel
theorem dX6_hull_4 : decode cX6_hull 4 = .ok (.aload_n 0, 1) := by decide +kernel
theorem dX6_hull_5 : decode cX6_hull 5 = .ok (.getfield 9, 3) := by decide +kernel
theorem dX6_hull_8 : decode cX6_hull 8 = .ok (.goto 7, 3) := by decide +kernel
theorem dX6_hull_11 : decode cX6_hull 11 = .ok (.aload_n 0, 1) := by decide +kernel
theorem dX6_hull_12 : decode cX6_hull 12 = .ok (.getfield 24, 3) := by decide +kernel
theorem dX6_hull_15 : decode cX6_hull 15 = .ok (.iload_n 1, 1) := by decide +kernel
theorem dX6_hull_16 : decode cX6_hull 16 = .ok (.invokestatic 62, 3) := by decide +kernel
theorem dX6_hull_19 : decode cX6_hull 19 = .ok (.ireturn, 1) := by decide +kernel
theorem dX6_placeIn_0 : decode cX6_placeIn 0 = .ok (.iconst 0, 1) := by decide +kernel
theorem dX6_placeIn_1 : decode cX6_placeIn 1 = .ok (.istore_n 3, 1) := by decide +kernel
theorem dX6_placeIn_2 : decode cX6_placeIn 2 = .ok (.iload_n 3, 1) := by decide +kernel
theorem dX6_placeIn_3 : decode cX6_placeIn 3 = .ok (.aload_n 0, 1) := by decide +kernel
theorem dX6_placeIn_4 : decode cX6_placeIn 4 = .ok (.iload_n 1, 1) := by decide +kernel
theorem dX6_placeIn_5 : decode cX6_placeIn 5 = .ok (.invokevirtual 71, 3) := by decide +kernel
theorem dX6_placeIn_8 : decode cX6_placeIn 8 = .ok (.if_icmp .ge 21, 3) := by decide +kernel
theorem dX6_placeIn_11 : decode cX6_placeIn 11 = .ok (.aload_n 0, 1) := by decide +kernel
theorem dX6_placeIn_12 : decode cX6_placeIn 12 = .ok (.iload_n 1, 1) := by decide +kernel
theorem dX6_placeIn_13 : decode cX6_placeIn 13 = .ok (.iload_n 3, 1) := by decide +kernel
theorem dX6_placeIn_14 : decode cX6_placeIn 14 = .ok (.invokevirtual 74, 3) := by decide +kernel
theorem dX6_placeIn_17 : decode cX6_placeIn 17 = .ok (.iload_n 2, 1) := by decide +kernel
theorem dX6_placeIn_18 : decode cX6_placeIn 18 = .ok (.if_icmp .ne 5, 3) := by decide +kernel
theorem dX6_placeIn_21 : decode cX6_placeIn 21 = .ok (.iload_n 3, 1) := by decide +kernel
theorem dX6_placeIn_22 : decode cX6_placeIn 22 = .ok (.ireturn, 1) := by decide +kernel
theorem dX6_placeIn_23 : decode cX6_placeIn 23 = .ok (.iinc 3 1, 3) := by decide +kernel
theorem dX6_placeIn_26 : decode cX6_placeIn 26 = .ok (.goto (-24), 3) := by decide +kernel
theorem dX6_placeIn_29 : decode cX6_placeIn 29 = .ok (.iconst (-1), 1) := by decide +kernel
theorem dX6_placeIn_30 : decode cX6_placeIn 30 = .ok (.ireturn, 1) := by decide +kernel
theorem dX6_boxSet_0 : decode cX6_boxSet 0 = .ok (.iconst 0, 1) := by decide +kernel
theorem dX6_boxSet_1 : decode cX6_boxSet 1 = .ok (.istore_n 1, 1) := by decide +kernel
theorem dX6_boxSet_2 : decode cX6_boxSet 2 = .ok (.iconst 0, 1) := by decide +kernel
theorem dX6_boxSet_3 : decode cX6_boxSet 3 = .ok (.istore_n 2, 1) := by decide +kernel
theorem dX6_boxSet_4 : decode cX6_boxSet 4 = .ok (.iload_n 2, 1) := by decide +kernel
theorem dX6_boxSet_5 : decode cX6_boxSet 5 = .ok (.bipush 31, 2) := by decide +kernel
theorem dX6_boxSet_7 : decode cX6_boxSet 7 = .ok (.if_icmp .ge 23, 3) := by decide +kernel
theorem dX6_boxSet_10 : decode cX6_boxSet 10 = .ok (.aload_n 0, 1) := by decide +kernel
theorem dX6_boxSet_11 : decode cX6_boxSet 11 = .ok (.iload_n 2, 1) := by decide +kernel
theorem dX6_boxSet_12 : decode cX6_boxSet 12 = .ok (.invokevirtual 78, 3) := by decide +kernel
theorem dX6_boxSet_15 : decode cX6_boxSet 15 = .ok (.ifCond .eq 9, 3) := by decide +kernel
theorem dX6_boxSet_18 : decode cX6_boxSet 18 = .ok (.iload_n 1, 1) := by decide +kernel
theorem dX6_boxSet_19 : decode cX6_boxSet 19 = .ok (.iconst 1, 1) := by decide +kernel
theorem dX6_boxSet_20 : decode cX6_boxSet 20 = .ok (.iload_n 2, 1) := by decide +kernel
theorem dX6_boxSet_21 : decode cX6_boxSet 21 = .ok (.ishl, 1) := by decide +kernel
theorem dX6_boxSet_22 : decode cX6_boxSet 22 = .ok (.ior, 1) := by decide +kernel
theorem dX6_boxSet_23 : decode cX6_boxSet 23 = .ok (.istore_n 1, 1) := by decide +kernel
theorem dX6_boxSet_24 : decode cX6_boxSet 24 = .ok (.iinc 2 1, 3) := by decide +kernel
theorem dX6_boxSet_27 : decode cX6_boxSet 27 = .ok (.goto (-23), 3) := by decide +kernel
theorem dX6_boxSet_30 : decode cX6_boxSet 30 = .ok (.iload_n 1, 1) := by decide +kernel
theorem dX6_boxSet_31 : decode cX6_boxSet 31 = .ok (.ireturn, 1) := by decide +kernel
theorem dX6_boxesOfLeaf_0 : decode cX6_boxesOfLeaf 0 = .ok (.iconst 0, 1) := by decide +kernel
theorem dX6_boxesOfLeaf_1 : decode cX6_boxesOfLeaf 1 = .ok (.istore_n 2, 1) := by decide +kernel
theorem dX6_boxesOfLeaf_2 : decode cX6_boxesOfLeaf 2 = .ok (.iconst 0, 1) := by decide +kernel
theorem dX6_boxesOfLeaf_3 : decode cX6_boxesOfLeaf 3 = .ok (.istore_n 3, 1) := by decide +kernel
theorem dX6_boxesOfLeaf_4 : decode cX6_boxesOfLeaf 4 = .ok (.iload_n 3, 1) := by decide +kernel
theorem dX6_boxesOfLeaf_5 : decode cX6_boxesOfLeaf 5 = .ok (.aload_n 0, 1) := by decide +kernel
theorem dX6_boxesOfLeaf_6 : decode cX6_boxesOfLeaf 6 = .ok (.iload_n 1, 1) := by decide +kernel
theorem dX6_boxesOfLeaf_7 : decode cX6_boxesOfLeaf 7 = .ok (.invokevirtual 71, 3) := by decide +kernel
theorem dX6_boxesOfLeaf_10 : decode cX6_boxesOfLeaf 10 = .ok (.if_icmp .ge 20, 3) := by decide +kernel
theorem dX6_boxesOfLeaf_13 : decode cX6_boxesOfLeaf 13 = .ok (.iload_n 2, 1) := by decide +kernel
theorem dX6_boxesOfLeaf_14 : decode cX6_boxesOfLeaf 14 = .ok (.iconst 1, 1) := by decide +kernel
theorem dX6_boxesOfLeaf_15 : decode cX6_boxesOfLeaf 15 = .ok (.aload_n 0, 1) := by decide +kernel
theorem dX6_boxesOfLeaf_16 : decode cX6_boxesOfLeaf 16 = .ok (.iload_n 1, 1) := by decide +kernel
theorem dX6_boxesOfLeaf_17 : decode cX6_boxesOfLeaf 17 = .ok (.iload_n 3, 1) := by decide +kernel
theorem dX6_boxesOfLeaf_18 : decode cX6_boxesOfLeaf 18 = .ok (.invokevirtual 74, 3) := by decide +kernel
theorem dX6_boxesOfLeaf_21 : decode cX6_boxesOfLeaf 21 = .ok (.ishl, 1) := by decide +kernel
theorem dX6_boxesOfLeaf_22 : decode cX6_boxesOfLeaf 22 = .ok (.ior, 1) := by decide +kernel
theorem dX6_boxesOfLeaf_23 : decode cX6_boxesOfLeaf 23 = .ok (.istore_n 2, 1) := by decide +kernel
theorem dX6_boxesOfLeaf_24 : decode cX6_boxesOfLeaf 24 = .ok (.iinc 3 1, 3) := by decide +kernel
theorem dX6_boxesOfLeaf_27 : decode cX6_boxesOfLeaf 27 = .ok (.goto (-23), 3) := by decide +kernel
theorem dX6_boxesOfLeaf_30 : decode cX6_boxesOfLeaf 30 = .ok (.iload_n 2, 1) := by decide +kernel
theorem dX6_boxesOfLeaf_31 : decode cX6_boxesOfLeaf 31 = .ok (.ireturn, 1) := by decide +kernel
theorem dX6_boxesTouching_0 : decode cX6_boxesTouching 0 = .ok (.iconst 0, 1) := by decide +kernel
theorem dX6_boxesTouching_1 : decode cX6_boxesTouching 1 = .ok (.istore_n 2, 1) := by decide +kernel
theorem dX6_boxesTouching_2 : decode cX6_boxesTouching 2 = .ok (.iconst 0, 1) := by decide +kernel
theorem dX6_boxesTouching_3 : decode cX6_boxesTouching 3 = .ok (.istore_n 3, 1) := by decide +kernel
theorem dX6_boxesTouching_4 : decode cX6_boxesTouching 4 = .ok (.iload_n 3, 1) := by decide +kernel
theorem dX6_boxesTouching_5 : decode cX6_boxesTouching 5 = .ok (.bipush 31, 2) := by decide +kernel
theorem dX6_boxesTouching_7 : decode cX6_boxesTouching 7 = .ok (.if_icmp .ge 28, 3) := by decide +kernel
theorem dX6_boxesTouching_10 : decode cX6_boxesTouching 10 = .ok (.aload_n 0, 1) := by decide +kernel
theorem dX6_boxesTouching_11 : decode cX6_boxesTouching 11 = .ok (.iload_n 3, 1) := by decide +kernel
theorem dX6_boxesTouching_12 : decode cX6_boxesTouching 12 = .ok (.iconst 0, 1) := by decide +kernel
theorem dX6_boxesTouching_13 : decode cX6_boxesTouching 13 = .ok (.invokevirtual 82, 3) := by decide +kernel
theorem dX6_boxesTouching_16 : decode cX6_boxesTouching 16 = .ok (.iload_n 1, 1) := by decide +kernel
theorem dX6_boxesTouching_17 : decode cX6_boxesTouching 17 = .ok (.invokestatic 85, 3) := by decide +kernel
theorem dX6_boxesTouching_20 : decode cX6_boxesTouching 20 = .ok (.ifCond .eq 9, 3) := by decide +kernel
theorem dX6_boxesTouching_23 : decode cX6_boxesTouching 23 = .ok (.iload_n 2, 1) := by decide +kernel
theorem dX6_boxesTouching_24 : decode cX6_boxesTouching 24 = .ok (.iconst 1, 1) := by decide +kernel
theorem dX6_boxesTouching_25 : decode cX6_boxesTouching 25 = .ok (.iload_n 3, 1) := by decide +kernel
theorem dX6_boxesTouching_26 : decode cX6_boxesTouching 26 = .ok (.ishl, 1) := by decide +kernel
theorem dX6_boxesTouching_27 : decode cX6_boxesTouching 27 = .ok (.ior, 1) := by decide +kernel
theorem dX6_boxesTouching_28 : decode cX6_boxesTouching 28 = .ok (.istore_n 2, 1) := by decide +kernel
theorem dX6_boxesTouching_29 : decode cX6_boxesTouching 29 = .ok (.iinc 3 1, 3) := by decide +kernel
theorem dX6_boxesTouching_32 : decode cX6_boxesTouching 32 = .ok (.goto (-28), 3) := by decide +kernel
theorem dX6_boxesTouching_35 : decode cX6_boxesTouching 35 = .ok (.iload_n 2, 1) := by decide +kernel
theorem dX6_boxesTouching_36 : decode cX6_boxesTouching 36 = .ok (.ireturn, 1) := by decide +kernel
theorem dX6_freeNumber_0 : decode cX6_freeNumber 0 = .ok (.iconst 0, 1) := by decide +kernel
theorem dX6_freeNumber_1 : decode cX6_freeNumber 1 = .ok (.istore_n 1, 1) := by decide +kernel
theorem dX6_freeNumber_2 : decode cX6_freeNumber 2 = .ok (.iload_n 1, 1) := by decide +kernel
theorem dX6_freeNumber_3 : decode cX6_freeNumber 3 = .ok (.bipush 31, 2) := by decide +kernel
theorem dX6_freeNumber_5 : decode cX6_freeNumber 5 = .ok (.if_icmp .ge 19, 3) := by decide +kernel
theorem dX6_freeNumber_8 : decode cX6_freeNumber 8 = .ok (.aload_n 0, 1) := by decide +kernel
theorem dX6_freeNumber_9 : decode cX6_freeNumber 9 = .ok (.iload_n 1, 1) := by decide +kernel
theorem dX6_freeNumber_10 : decode cX6_freeNumber 10 = .ok (.invokevirtual 78, 3) := by decide +kernel
theorem dX6_freeNumber_13 : decode cX6_freeNumber 13 = .ok (.ifCond .ne 5, 3) := by decide +kernel
theorem dX6_freeNumber_16 : decode cX6_freeNumber 16 = .ok (.iload_n 1, 1) := by decide +kernel
theorem dX6_freeNumber_17 : decode cX6_freeNumber 17 = .ok (.ireturn, 1) := by decide +kernel
theorem dX6_freeNumber_18 : decode cX6_freeNumber 18 = .ok (.iinc 1 1, 3) := by decide +kernel
theorem dX6_freeNumber_21 : decode cX6_freeNumber 21 = .ok (.goto (-19), 3) := by decide +kernel
theorem dX6_freeNumber_24 : decode cX6_freeNumber 24 = .ok (.iconst (-1), 1) := by decide +kernel
theorem dX6_freeNumber_25 : decode cX6_freeNumber 25 = .ok (.ireturn, 1) := by decide +kernel
theorem dX6_nodeFor_0 : decode cX6_nodeFor 0 = .ok (.aload_n 0, 1) := by decide +kernel
theorem dX6_nodeFor_1 : decode cX6_nodeFor 1 = .ok (.getfield 43, 3) := by decide +kernel
theorem dX6_nodeFor_4 : decode cX6_nodeFor 4 = .ok (.istore_n 3, 1) := by decide +kernel
theorem dX6_nodeFor_5 : decode cX6_nodeFor 5 = .ok (.iconst 0, 1) := by decide +kernel
theorem dX6_nodeFor_6 : decode cX6_nodeFor 6 = .ok (.istore 4, 2) := by decide +kernel
theorem dX6_nodeFor_8 : decode cX6_nodeFor 8 = .ok (.iload 4, 2) := by decide +kernel
theorem dX6_nodeFor_10 : decode cX6_nodeFor 10 = .ok (.bipush 8, 2) := by decide +kernel
theorem dX6_nodeFor_12 : decode cX6_nodeFor 12 = .ok (.if_icmp .ge 25, 3) := by decide +kernel
theorem dX6_nodeFor_15 : decode cX6_nodeFor 15 = .ok (.aload_n 0, 1) := by decide +kernel
theorem dX6_nodeFor_16 : decode cX6_nodeFor 16 = .ok (.iload_n 3, 1) := by decide +kernel
theorem dX6_nodeFor_17 : decode cX6_nodeFor 17 = .ok (.invokevirtual 68, 3) := by decide +kernel
theorem dX6_nodeFor_20 : decode cX6_nodeFor 20 = .ok (.iload_n 2, 1) := by decide +kernel
theorem dX6_nodeFor_21 : decode cX6_nodeFor 21 = .ok (.if_icmp .le 16, 3) := by decide +kernel
theorem dX6_nodeFor_24 : decode cX6_nodeFor 24 = .ok (.aload_n 0, 1) := by decide +kernel
theorem dX6_nodeFor_25 : decode cX6_nodeFor 25 = .ok (.iload_n 3, 1) := by decide +kernel
theorem dX6_nodeFor_26 : decode cX6_nodeFor 26 = .ok (.iload_n 1, 1) := by decide +kernel
theorem dX6_nodeFor_27 : decode cX6_nodeFor 27 = .ok (.invokevirtual 91, 3) := by decide +kernel
theorem dX6_nodeFor_30 : decode cX6_nodeFor 30 = .ok (.istore_n 3, 1) := by decide +kernel
theorem dX6_nodeFor_31 : decode cX6_nodeFor 31 = .ok (.iinc 4 1, 3) := by decide +kernel
theorem dX6_nodeFor_34 : decode cX6_nodeFor 34 = .ok (.goto (-26), 3) := by decide +kernel
theorem dX6_nodeFor_37 : decode cX6_nodeFor 37 = .ok (.iload_n 3, 1) := by decide +kernel
theorem dX6_nodeFor_38 : decode cX6_nodeFor 38 = .ok (.ireturn, 1) := by decide +kernel
theorem dX6_leastGreater_0 : decode cX6_leastGreater 0 = .ok (.iconst (-1), 1) := by decide +kernel
theorem dX6_leastGreater_1 : decode cX6_leastGreater 1 = .ok (.istore_n 3, 1) := by decide +kernel
theorem dX6_leastGreater_2 : decode cX6_leastGreater 2 = .ok (.iconst 0, 1) := by decide +kernel
theorem dX6_leastGreater_3 : decode cX6_leastGreater 3 = .ok (.istore 4, 2) := by decide +kernel
theorem dX6_leastGreater_5 : decode cX6_leastGreater 5 = .ok (.iconst 0, 1) := by decide +kernel
theorem dX6_leastGreater_6 : decode cX6_leastGreater 6 = .ok (.istore 5, 2) := by decide +kernel
theorem dX6_leastGreater_8 : decode cX6_leastGreater 8 = .ok (.iconst 0, 1) := by decide +kernel
theorem dX6_leastGreater_9 : decode cX6_leastGreater 9 = .ok (.istore 6, 2) := by decide +kernel
theorem dX6_leastGreater_11 : decode cX6_leastGreater 11 = .ok (.iload 6, 2) := by decide +kernel
theorem dX6_leastGreater_13 : decode cX6_leastGreater 13 = .ok (.aload_n 0, 1) := by decide +kernel
theorem dX6_leastGreater_14 : decode cX6_leastGreater 14 = .ok (.iload_n 1, 1) := by decide +kernel
theorem dX6_leastGreater_15 : decode cX6_leastGreater 15 = .ok (.invokevirtual 71, 3) := by decide +kernel
theorem dX6_leastGreater_18 : decode cX6_leastGreater 18 = .ok (.if_icmp .ge 87, 3) := by decide +kernel
theorem dX6_leastGreater_21 : decode cX6_leastGreater 21 = .ok (.aload_n 0, 1) := by decide +kernel
theorem dX6_leastGreater_22 : decode cX6_leastGreater 22 = .ok (.iload_n 1, 1) := by decide +kernel
theorem dX6_leastGreater_23 : decode cX6_leastGreater 23 = .ok (.iload 6, 2) := by decide +kernel
theorem dX6_leastGreater_25 : decode cX6_leastGreater 25 = .ok (.invokevirtual 74, 3) := by decide +kernel
theorem dX6_leastGreater_28 : decode cX6_leastGreater 28 = .ok (.istore 7, 2) := by decide +kernel
theorem dX6_leastGreater_30 : decode cX6_leastGreater 30 = .ok (.aload_n 0, 1) := by decide +kernel
theorem dX6_leastGreater_31 : decode cX6_leastGreater 31 = .ok (.getfield 24, 3) := by decide +kernel
theorem dX6_leastGreater_34 : decode cX6_leastGreater 34 = .ok (.iload 7, 2) := by decide +kernel
theorem dX6_leastGreater_36 : decode cX6_leastGreater 36 = .ok (.invokestatic 62, 3) := by decide +kernel
theorem dX6_leastGreater_39 : decode cX6_leastGreater 39 = .ok (.istore 8, 2) := by decide +kernel
theorem dX6_leastGreater_41 : decode cX6_leastGreater 41 = .ok (.iload 8, 2) := by decide +kernel
theorem dX6_leastGreater_43 : decode cX6_leastGreater 43 = .ok (.invokestatic 94, 3) := by decide +kernel
theorem dX6_leastGreater_46 : decode cX6_leastGreater 46 = .ok (.istore 9, 2) := by decide +kernel
theorem dX6_leastGreater_48 : decode cX6_leastGreater 48 = .ok (.iload 8, 2) := by decide +kernel
theorem dX6_leastGreater_50 : decode cX6_leastGreater 50 = .ok (.iload_n 2, 1) := by decide +kernel
theorem dX6_leastGreater_51 : decode cX6_leastGreater 51 = .ok (.invokestatic 97, 3) := by decide +kernel
theorem dX6_leastGreater_54 : decode cX6_leastGreater 54 = .ok (.invokestatic 94, 3) := by decide +kernel
theorem dX6_leastGreater_57 : decode cX6_leastGreater 57 = .ok (.iload 9, 2) := by decide +kernel
theorem dX6_leastGreater_59 : decode cX6_leastGreater 59 = .ok (.isub, 1) := by decide +kernel
theorem dX6_leastGreater_60 : decode cX6_leastGreater 60 = .ok (.istore 10, 2) := by decide +kernel
theorem dX6_leastGreater_62 : decode cX6_leastGreater 62 = .ok (.iload_n 3, 1) := by decide +kernel
theorem dX6_leastGreater_63 : decode cX6_leastGreater 63 = .ok (.iconst (-1), 1) := by decide +kernel
theorem dX6_leastGreater_64 : decode cX6_leastGreater 64 = .ok (.if_icmp .eq 24, 3) := by decide +kernel
theorem dX6_leastGreater_67 : decode cX6_leastGreater 67 = .ok (.iload 10, 2) := by decide +kernel
theorem dX6_leastGreater_69 : decode cX6_leastGreater 69 = .ok (.iload 4, 2) := by decide +kernel
theorem dX6_leastGreater_71 : decode cX6_leastGreater 71 = .ok (.if_icmp .lt 17, 3) := by decide +kernel
theorem dX6_leastGreater_74 : decode cX6_leastGreater 74 = .ok (.iload 10, 2) := by decide +kernel
theorem dX6_leastGreater_76 : decode cX6_leastGreater 76 = .ok (.iload 4, 2) := by decide +kernel
theorem dX6_leastGreater_78 : decode cX6_leastGreater 78 = .ok (.if_icmp .ne 21, 3) := by decide +kernel
theorem dX6_leastGreater_81 : decode cX6_leastGreater 81 = .ok (.iload 9, 2) := by decide +kernel
theorem dX6_leastGreater_83 : decode cX6_leastGreater 83 = .ok (.iload 5, 2) := by decide +kernel
theorem dX6_leastGreater_85 : decode cX6_leastGreater 85 = .ok (.if_icmp .ge 14, 3) := by decide +kernel
theorem dX6_leastGreater_88 : decode cX6_leastGreater 88 = .ok (.iload 7, 2) := by decide +kernel
theorem dX6_leastGreater_90 : decode cX6_leastGreater 90 = .ok (.istore_n 3, 1) := by decide +kernel
theorem dX6_leastGreater_91 : decode cX6_leastGreater 91 = .ok (.iload 10, 2) := by decide +kernel
theorem dX6_leastGreater_93 : decode cX6_leastGreater 93 = .ok (.istore 4, 2) := by decide +kernel
theorem dX6_leastGreater_95 : decode cX6_leastGreater 95 = .ok (.iload 9, 2) := by decide +kernel
theorem dX6_leastGreater_97 : decode cX6_leastGreater 97 = .ok (.istore 5, 2) := by decide +kernel
theorem dX6_leastGreater_99 : decode cX6_leastGreater 99 = .ok (.iinc 6 1, 3) := by decide +kernel
theorem dX6_leastGreater_102 : decode cX6_leastGreater 102 = .ok (.goto (-91), 3) := by decide +kernel
theorem dX6_leastGreater_105 : decode cX6_leastGreater 105 = .ok (.iload_n 3, 1) := by decide +kernel
theorem dX6_leastGreater_106 : decode cX6_leastGreater 106 = .ok (.ireturn, 1) := by decide +kernel
theorem dX6_setBox_0 : decode cX6_setBox 0 = .ok (.aload_n 0, 1) := by decide +kernel
theorem dX6_setBox_1 : decode cX6_setBox 1 = .ok (.getfield 9, 3) := by decide +kernel
theorem dX6_setBox_4 : decode cX6_setBox 4 = .ok (.iload_n 1, 1) := by decide +kernel
theorem dX6_setBox_5 : decode cX6_setBox 5 = .ok (.iload_n 2, 1) := by decide +kernel
theorem dX6_setBox_6 : decode cX6_setBox 6 = .ok (.invokestatic 100, 3) := by decide +kernel
theorem dX6_setBox_9 : decode cX6_setBox 9 = .ok (.return_, 1) := by decide +kernel
theorem dX6_add_0 : decode cX6_add 0 = .ok (.aload_n 0, 1) := by decide +kernel
theorem dX6_add_1 : decode cX6_add 1 = .ok (.iload_n 1, 1) := by decide +kernel
theorem dX6_add_2 : decode cX6_add 2 = .ok (.invokevirtual 71, 3) := by decide +kernel
theorem dX6_add_5 : decode cX6_add 5 = .ok (.istore 4, 2) := by decide +kernel
theorem dX6_add_7 : decode cX6_add 7 = .ok (.iload 4, 2) := by decide +kernel
theorem dX6_add_9 : decode cX6_add 9 = .ok (.ifCond .lt 19, 3) := by decide +kernel
theorem dX6_add_12 : decode cX6_add 12 = .ok (.iload 4, 2) := by decide +kernel
theorem dX6_add_14 : decode cX6_add 14 = .ok (.iconst 5, 1) := by decide +kernel
theorem dX6_add_15 : decode cX6_add 15 = .ok (.if_icmp .ge 13, 3) := by decide +kernel
theorem dX6_add_18 : decode cX6_add 18 = .ok (.iload_n 2, 1) := by decide +kernel
theorem dX6_add_19 : decode cX6_add 19 = .ok (.ifCond .lt 9, 3) := by decide +kernel
theorem dX6_add_22 : decode cX6_add 22 = .ok (.iload_n 2, 1) := by decide +kernel
theorem dX6_add_23 : decode cX6_add 23 = .ok (.iload 4, 2) := by decide +kernel
theorem dX6_add_25 : decode cX6_add 25 = .ok (.if_icmp .le 4, 3) := by decide +kernel
theorem dX6_add_28 : decode cX6_add 28 = .ok (.return_, 1) := by decide +kernel
theorem dX6_add_29 : decode cX6_add 29 = .ok (.iload_n 1, 1) := by decide +kernel
theorem dX6_add_30 : decode cX6_add 30 = .ok (.iconst 5, 1) := by decide +kernel
theorem dX6_add_31 : decode cX6_add 31 = .ok (.imul, 1) := by decide +kernel
theorem dX6_add_32 : decode cX6_add 32 = .ok (.istore 5, 2) := by decide +kernel
theorem dX6_add_34 : decode cX6_add 34 = .ok (.iload 4, 2) := by decide +kernel
theorem dX6_add_36 : decode cX6_add 36 = .ok (.istore 6, 2) := by decide +kernel
theorem dX6_add_38 : decode cX6_add 38 = .ok (.iload 6, 2) := by decide +kernel
theorem dX6_add_40 : decode cX6_add 40 = .ok (.iload_n 2, 1) := by decide +kernel
theorem dX6_add_41 : decode cX6_add 41 = .ok (.if_icmp .le 35, 3) := by decide +kernel
theorem dX6_add_44 : decode cX6_add 44 = .ok (.aload_n 0, 1) := by decide +kernel
theorem dX6_add_45 : decode cX6_add 45 = .ok (.getfield 30, 3) := by decide +kernel
theorem dX6_add_48 : decode cX6_add 48 = .ok (.iload 5, 2) := by decide +kernel
theorem dX6_add_50 : decode cX6_add 50 = .ok (.iload 6, 2) := by decide +kernel
theorem dX6_add_52 : decode cX6_add 52 = .ok (.iadd, 1) := by decide +kernel
theorem dX6_add_53 : decode cX6_add 53 = .ok (.aload_n 0, 1) := by decide +kernel
theorem dX6_add_54 : decode cX6_add 54 = .ok (.getfield 30, 3) := by decide +kernel
theorem dX6_add_57 : decode cX6_add 57 = .ok (.iload 5, 2) := by decide +kernel
theorem dX6_add_59 : decode cX6_add 59 = .ok (.iload 6, 2) := by decide +kernel
theorem dX6_add_61 : decode cX6_add 61 = .ok (.iadd, 1) := by decide +kernel
theorem dX6_add_62 : decode cX6_add 62 = .ok (.iconst 1, 1) := by decide +kernel
theorem dX6_add_63 : decode cX6_add 63 = .ok (.isub, 1) := by decide +kernel
theorem dX6_add_64 : decode cX6_add 64 = .ok (.invokestatic 62, 3) := by decide +kernel
theorem dX6_add_67 : decode cX6_add 67 = .ok (.invokestatic 100, 3) := by decide +kernel
theorem dX6_add_70 : decode cX6_add 70 = .ok (.iinc 6 (-1), 3) := by decide +kernel
theorem dX6_add_73 : decode cX6_add 73 = .ok (.goto (-35), 3) := by decide +kernel
theorem dX6_add_76 : decode cX6_add 76 = .ok (.aload_n 0, 1) := by decide +kernel
theorem dX6_add_77 : decode cX6_add 77 = .ok (.getfield 30, 3) := by decide +kernel
theorem dX6_add_80 : decode cX6_add 80 = .ok (.iload 5, 2) := by decide +kernel
theorem dX6_add_82 : decode cX6_add 82 = .ok (.iload_n 2, 1) := by decide +kernel
theorem dX6_add_83 : decode cX6_add 83 = .ok (.iadd, 1) := by decide +kernel
theorem dX6_add_84 : decode cX6_add 84 = .ok (.iload_n 3, 1) := by decide +kernel
theorem dX6_add_85 : decode cX6_add 85 = .ok (.invokestatic 100, 3) := by decide +kernel
theorem dX6_add_88 : decode cX6_add 88 = .ok (.aload_n 0, 1) := by decide +kernel
theorem dX6_add_89 : decode cX6_add 89 = .ok (.getfield 21, 3) := by decide +kernel
theorem dX6_add_92 : decode cX6_add 92 = .ok (.iload_n 1, 1) := by decide +kernel
theorem dX6_add_93 : decode cX6_add 93 = .ok (.iload 4, 2) := by decide +kernel
theorem dX6_add_95 : decode cX6_add 95 = .ok (.iconst 1, 1) := by decide +kernel
theorem dX6_add_96 : decode cX6_add 96 = .ok (.iadd, 1) := by decide +kernel
theorem dX6_add_97 : decode cX6_add 97 = .ok (.invokestatic 100, 3) := by decide +kernel
theorem dX6_add_100 : decode cX6_add 100 = .ok (.aload_n 0, 1) := by decide +kernel
theorem dX6_add_101 : decode cX6_add 101 = .ok (.iload_n 1, 1) := by decide +kernel
theorem dX6_add_102 : decode cX6_add 102 = .ok (.invokevirtual 68, 3) := by decide +kernel
theorem dX6_add_105 : decode cX6_add 105 = .ok (.ifCond .ne 10, 3) := by decide +kernel
theorem dX6_add_108 : decode cX6_add 108 = .ok (.aload_n 0, 1) := by decide +kernel
theorem dX6_add_109 : decode cX6_add 109 = .ok (.getfield 15, 3) := by decide +kernel
theorem dX6_add_112 : decode cX6_add 112 = .ok (.goto 7, 3) := by decide +kernel
theorem dX6_add_115 : decode cX6_add 115 = .ok (.aload_n 0, 1) := by decide +kernel
theorem dX6_add_116 : decode cX6_add 116 = .ok (.getfield 27, 3) := by decide +kernel
theorem dX6_add_119 : decode cX6_add 119 = .ok (.iload_n 3, 1) := by decide +kernel
theorem dX6_add_120 : decode cX6_add 120 = .ok (.iload_n 1, 1) := by decide +kernel
theorem dX6_add_121 : decode cX6_add 121 = .ok (.invokestatic 100, 3) := by decide +kernel
theorem dX6_add_124 : decode cX6_add 124 = .ok (.return_, 1) := by decide +kernel
theorem dX6_remove_0 : decode cX6_remove 0 = .ok (.aload_n 0, 1) := by decide +kernel
theorem dX6_remove_1 : decode cX6_remove 1 = .ok (.iload_n 1, 1) := by decide +kernel
theorem dX6_remove_2 : decode cX6_remove 2 = .ok (.invokevirtual 71, 3) := by decide +kernel
theorem dX6_remove_5 : decode cX6_remove 5 = .ok (.istore_n 3, 1) := by decide +kernel
theorem dX6_remove_6 : decode cX6_remove 6 = .ok (.iload_n 2, 1) := by decide +kernel
theorem dX6_remove_7 : decode cX6_remove 7 = .ok (.ifCond .lt 8, 3) := by decide +kernel
theorem dX6_remove_10 : decode cX6_remove 10 = .ok (.iload_n 2, 1) := by decide +kernel
theorem dX6_remove_11 : decode cX6_remove 11 = .ok (.iload_n 3, 1) := by decide +kernel
theorem dX6_remove_12 : decode cX6_remove 12 = .ok (.if_icmp .lt 4, 3) := by decide +kernel
theorem dX6_remove_15 : decode cX6_remove 15 = .ok (.return_, 1) := by decide +kernel
theorem dX6_remove_16 : decode cX6_remove 16 = .ok (.iload_n 1, 1) := by decide +kernel
theorem dX6_remove_17 : decode cX6_remove 17 = .ok (.iconst 5, 1) := by decide +kernel
theorem dX6_remove_18 : decode cX6_remove 18 = .ok (.imul, 1) := by decide +kernel
theorem dX6_remove_19 : decode cX6_remove 19 = .ok (.istore 4, 2) := by decide +kernel
theorem dX6_remove_21 : decode cX6_remove 21 = .ok (.aload_n 0, 1) := by decide +kernel
theorem dX6_remove_22 : decode cX6_remove 22 = .ok (.iload_n 1, 1) := by decide +kernel
theorem dX6_remove_23 : decode cX6_remove 23 = .ok (.invokevirtual 68, 3) := by decide +kernel
theorem dX6_remove_26 : decode cX6_remove 26 = .ok (.ifCond .ne 10, 3) := by decide +kernel
theorem dX6_remove_29 : decode cX6_remove 29 = .ok (.aload_n 0, 1) := by decide +kernel
theorem dX6_remove_30 : decode cX6_remove 30 = .ok (.getfield 15, 3) := by decide +kernel
theorem dX6_remove_33 : decode cX6_remove 33 = .ok (.goto 7, 3) := by decide +kernel
theorem dX6_remove_36 : decode cX6_remove 36 = .ok (.aload_n 0, 1) := by decide +kernel
theorem dX6_remove_37 : decode cX6_remove 37 = .ok (.getfield 27, 3) := by decide +kernel
theorem dX6_remove_40 : decode cX6_remove 40 = .ok (.aload_n 0, 1) := by decide +kernel
theorem dX6_remove_41 : decode cX6_remove 41 = .ok (.iload_n 1, 1) := by decide +kernel
theorem dX6_remove_42 : decode cX6_remove 42 = .ok (.iload_n 2, 1) := by decide +kernel
theorem dX6_remove_43 : decode cX6_remove 43 = .ok (.invokevirtual 74, 3) := by decide +kernel
theorem dX6_remove_46 : decode cX6_remove 46 = .ok (.iconst (-1), 1) := by decide +kernel
theorem dX6_remove_47 : decode cX6_remove 47 = .ok (.invokestatic 100, 3) := by decide +kernel
theorem dX6_remove_50 : decode cX6_remove 50 = .ok (.iload_n 2, 1) := by decide +kernel
theorem dX6_remove_51 : decode cX6_remove 51 = .ok (.istore 5, 2) := by decide +kernel
theorem dX6_remove_53 : decode cX6_remove 53 = .ok (.iload 5, 2) := by decide +kernel
theorem dX6_remove_55 : decode cX6_remove 55 = .ok (.iload_n 3, 1) := by decide +kernel
theorem dX6_remove_56 : decode cX6_remove 56 = .ok (.iconst 1, 1) := by decide +kernel
theorem dX6_remove_57 : decode cX6_remove 57 = .ok (.isub, 1) := by decide +kernel
theorem dX6_remove_58 : decode cX6_remove 58 = .ok (.if_icmp .ge 35, 3) := by decide +kernel
theorem dX6_remove_61 : decode cX6_remove 61 = .ok (.aload_n 0, 1) := by decide +kernel
theorem dX6_remove_62 : decode cX6_remove 62 = .ok (.getfield 30, 3) := by decide +kernel
theorem dX6_remove_65 : decode cX6_remove 65 = .ok (.iload 4, 2) := by decide +kernel
theorem dX6_remove_67 : decode cX6_remove 67 = .ok (.iload 5, 2) := by decide +kernel
theorem dX6_remove_69 : decode cX6_remove 69 = .ok (.iadd, 1) := by decide +kernel
theorem dX6_remove_70 : decode cX6_remove 70 = .ok (.aload_n 0, 1) := by decide +kernel
theorem dX6_remove_71 : decode cX6_remove 71 = .ok (.getfield 30, 3) := by decide +kernel
theorem dX6_remove_74 : decode cX6_remove 74 = .ok (.iload 4, 2) := by decide +kernel
theorem dX6_remove_76 : decode cX6_remove 76 = .ok (.iload 5, 2) := by decide +kernel
theorem dX6_remove_78 : decode cX6_remove 78 = .ok (.iadd, 1) := by decide +kernel
theorem dX6_remove_79 : decode cX6_remove 79 = .ok (.iconst 1, 1) := by decide +kernel
theorem dX6_remove_80 : decode cX6_remove 80 = .ok (.iadd, 1) := by decide +kernel
theorem dX6_remove_81 : decode cX6_remove 81 = .ok (.invokestatic 62, 3) := by decide +kernel
theorem dX6_remove_84 : decode cX6_remove 84 = .ok (.invokestatic 100, 3) := by decide +kernel
theorem dX6_remove_87 : decode cX6_remove 87 = .ok (.iinc 5 1, 3) := by decide +kernel
theorem dX6_remove_90 : decode cX6_remove 90 = .ok (.goto (-37), 3) := by decide +kernel
theorem dX6_remove_93 : decode cX6_remove 93 = .ok (.aload_n 0, 1) := by decide +kernel
theorem dX6_remove_94 : decode cX6_remove 94 = .ok (.getfield 30, 3) := by decide +kernel
theorem dX6_remove_97 : decode cX6_remove 97 = .ok (.iload 4, 2) := by decide +kernel
theorem dX6_remove_99 : decode cX6_remove 99 = .ok (.iload_n 3, 1) := by decide +kernel
theorem dX6_remove_100 : decode cX6_remove 100 = .ok (.iadd, 1) := by decide +kernel
theorem dX6_remove_101 : decode cX6_remove 101 = .ok (.iconst 1, 1) := by decide +kernel
theorem dX6_remove_102 : decode cX6_remove 102 = .ok (.isub, 1) := by decide +kernel
theorem dX6_remove_103 : decode cX6_remove 103 = .ok (.iconst (-1), 1) := by decide +kernel
theorem dX6_remove_104 : decode cX6_remove 104 = .ok (.invokestatic 100, 3) := by decide +kernel
theorem dX6_remove_107 : decode cX6_remove 107 = .ok (.aload_n 0, 1) := by decide +kernel
theorem dX6_remove_108 : decode cX6_remove 108 = .ok (.getfield 21, 3) := by decide +kernel
theorem dX6_remove_111 : decode cX6_remove 111 = .ok (.iload_n 1, 1) := by decide +kernel
theorem dX6_remove_112 : decode cX6_remove 112 = .ok (.iload_n 3, 1) := by decide +kernel
theorem dX6_remove_113 : decode cX6_remove 113 = .ok (.iconst 1, 1) := by decide +kernel
theorem dX6_remove_114 : decode cX6_remove 114 = .ok (.isub, 1) := by decide +kernel
theorem dX6_remove_115 : decode cX6_remove 115 = .ok (.invokestatic 100, 3) := by decide +kernel
theorem dX6_remove_118 : decode cX6_remove 118 = .ok (.return_, 1) := by decide +kernel
theorem dX6_refresh_0 : decode cX6_refresh 0 = .ok (.iload_n 1, 1) := by decide +kernel
theorem dX6_refresh_1 : decode cX6_refresh 1 = .ok (.istore_n 2, 1) := by decide +kernel
theorem dX6_refresh_2 : decode cX6_refresh 2 = .ok (.iconst 0, 1) := by decide +kernel
theorem dX6_refresh_3 : decode cX6_refresh 3 = .ok (.istore_n 3, 1) := by decide +kernel
theorem dX6_refresh_4 : decode cX6_refresh 4 = .ok (.iload_n 3, 1) := by decide +kernel
theorem dX6_refresh_5 : decode cX6_refresh 5 = .ok (.bipush 8, 2) := by decide +kernel
theorem dX6_refresh_7 : decode cX6_refresh 7 = .ok (.if_icmp .ge 79, 3) := by decide +kernel
theorem dX6_refresh_10 : decode cX6_refresh 10 = .ok (.iload_n 2, 1) := by decide +kernel
theorem dX6_refresh_11 : decode cX6_refresh 11 = .ok (.iconst (-1), 1) := by decide +kernel
theorem dX6_refresh_12 : decode cX6_refresh 12 = .ok (.if_icmp .eq 74, 3) := by decide +kernel
theorem dX6_refresh_15 : decode cX6_refresh 15 = .ok (.aload_n 0, 1) := by decide +kernel
theorem dX6_refresh_16 : decode cX6_refresh 16 = .ok (.iload_n 2, 1) := by decide +kernel
theorem dX6_refresh_17 : decode cX6_refresh 17 = .ok (.invokevirtual 68, 3) := by decide +kernel
theorem dX6_refresh_20 : decode cX6_refresh 20 = .ok (.istore 4, 2) := by decide +kernel
theorem dX6_refresh_22 : decode cX6_refresh 22 = .ok (.iconst (-1), 1) := by decide +kernel
theorem dX6_refresh_23 : decode cX6_refresh 23 = .ok (.istore 5, 2) := by decide +kernel
theorem dX6_refresh_25 : decode cX6_refresh 25 = .ok (.iconst 0, 1) := by decide +kernel
theorem dX6_refresh_26 : decode cX6_refresh 26 = .ok (.istore 6, 2) := by decide +kernel
theorem dX6_refresh_28 : decode cX6_refresh 28 = .ok (.iload 6, 2) := by decide +kernel
theorem dX6_refresh_30 : decode cX6_refresh 30 = .ok (.aload_n 0, 1) := by decide +kernel
theorem dX6_refresh_31 : decode cX6_refresh 31 = .ok (.iload_n 2, 1) := by decide +kernel
theorem dX6_refresh_32 : decode cX6_refresh 32 = .ok (.invokevirtual 71, 3) := by decide +kernel
theorem dX6_refresh_35 : decode cX6_refresh 35 = .ok (.if_icmp .ge 29, 3) := by decide +kernel
theorem dX6_refresh_38 : decode cX6_refresh 38 = .ok (.iload 5, 2) := by decide +kernel
theorem dX6_refresh_40 : decode cX6_refresh 40 = .ok (.aload_n 0, 1) := by decide +kernel
theorem dX6_refresh_41 : decode cX6_refresh 41 = .ok (.aload_n 0, 1) := by decide +kernel
theorem dX6_refresh_42 : decode cX6_refresh 42 = .ok (.iload_n 2, 1) := by decide +kernel
theorem dX6_refresh_43 : decode cX6_refresh 43 = .ok (.iload 6, 2) := by decide +kernel
theorem dX6_refresh_45 : decode cX6_refresh 45 = .ok (.invokevirtual 74, 3) := by decide +kernel
theorem dX6_refresh_48 : decode cX6_refresh 48 = .ok (.iload 4, 2) := by decide +kernel
theorem dX6_refresh_50 : decode cX6_refresh 50 = .ok (.invokevirtual 82, 3) := by decide +kernel
theorem dX6_refresh_53 : decode cX6_refresh 53 = .ok (.invokestatic 97, 3) := by decide +kernel
theorem dX6_refresh_56 : decode cX6_refresh 56 = .ok (.istore 5, 2) := by decide +kernel
theorem dX6_refresh_58 : decode cX6_refresh 58 = .ok (.iinc 6 1, 3) := by decide +kernel
theorem dX6_refresh_61 : decode cX6_refresh 61 = .ok (.goto (-33), 3) := by decide +kernel
theorem dX6_refresh_64 : decode cX6_refresh 64 = .ok (.aload_n 0, 1) := by decide +kernel
theorem dX6_refresh_65 : decode cX6_refresh 65 = .ok (.getfield 24, 3) := by decide +kernel
theorem dX6_refresh_68 : decode cX6_refresh 68 = .ok (.iload_n 2, 1) := by decide +kernel
theorem dX6_refresh_69 : decode cX6_refresh 69 = .ok (.iload 5, 2) := by decide +kernel
theorem dX6_refresh_71 : decode cX6_refresh 71 = .ok (.invokestatic 100, 3) := by decide +kernel
theorem dX6_refresh_74 : decode cX6_refresh 74 = .ok (.aload_n 0, 1) := by decide +kernel
theorem dX6_refresh_75 : decode cX6_refresh 75 = .ok (.iload_n 2, 1) := by decide +kernel
theorem dX6_refresh_76 : decode cX6_refresh 76 = .ok (.invokevirtual 104, 3) := by decide +kernel
theorem dX6_refresh_79 : decode cX6_refresh 79 = .ok (.istore_n 2, 1) := by decide +kernel
theorem dX6_refresh_80 : decode cX6_refresh 80 = .ok (.iinc 3 1, 3) := by decide +kernel
theorem dX6_refresh_83 : decode cX6_refresh 83 = .ok (.goto (-79), 3) := by decide +kernel
theorem dX6_refresh_86 : decode cX6_refresh 86 = .ok (.return_, 1) := by decide +kernel
theorem dX6_newNode_0 : decode cX6_newNode 0 = .ok (.iconst 0, 1) := by decide +kernel
theorem dX6_newNode_1 : decode cX6_newNode 1 = .ok (.istore_n 2, 1) := by decide +kernel
theorem dX6_newNode_2 : decode cX6_newNode 2 = .ok (.iload_n 2, 1) := by decide +kernel
theorem dX6_newNode_3 : decode cX6_newNode 3 = .ok (.bipush 32, 2) := by decide +kernel
theorem dX6_newNode_5 : decode cX6_newNode 5 = .ok (.if_icmp .ge 29, 3) := by decide +kernel
theorem dX6_newNode_8 : decode cX6_newNode 8 = .ok (.aload_n 0, 1) := by decide +kernel
theorem dX6_newNode_9 : decode cX6_newNode 9 = .ok (.iload_n 2, 1) := by decide +kernel
theorem dX6_newNode_10 : decode cX6_newNode 10 = .ok (.invokevirtual 68, 3) := by decide +kernel
theorem dX6_newNode_13 : decode cX6_newNode 13 = .ok (.iconst (-1), 1) := by decide +kernel
theorem dX6_newNode_14 : decode cX6_newNode 14 = .ok (.if_icmp .ne 14, 3) := by decide +kernel
theorem dX6_newNode_17 : decode cX6_newNode 17 = .ok (.aload_n 0, 1) := by decide +kernel
theorem dX6_newNode_18 : decode cX6_newNode 18 = .ok (.getfield 18, 3) := by decide +kernel
theorem dX6_newNode_21 : decode cX6_newNode 21 = .ok (.iload_n 2, 1) := by decide +kernel
theorem dX6_newNode_22 : decode cX6_newNode 22 = .ok (.iload_n 1, 1) := by decide +kernel
theorem dX6_newNode_23 : decode cX6_newNode 23 = .ok (.invokestatic 100, 3) := by decide +kernel
theorem dX6_newNode_26 : decode cX6_newNode 26 = .ok (.iload_n 2, 1) := by decide +kernel
theorem dX6_newNode_27 : decode cX6_newNode 27 = .ok (.ireturn, 1) := by decide +kernel
theorem dX6_newNode_28 : decode cX6_newNode 28 = .ok (.iinc 2 1, 3) := by decide +kernel
theorem dX6_newNode_31 : decode cX6_newNode 31 = .ok (.goto (-29), 3) := by decide +kernel
theorem dX6_newNode_34 : decode cX6_newNode 34 = .ok (.iconst (-1), 1) := by decide +kernel
theorem dX6_newNode_35 : decode cX6_newNode 35 = .ok (.ireturn, 1) := by decide +kernel
theorem dX6_clearRow_0 : decode cX6_clearRow 0 = .ok (.aload_n 0, 1) := by decide +kernel
theorem dX6_clearRow_1 : decode cX6_clearRow 1 = .ok (.iload_n 1, 1) := by decide +kernel
theorem dX6_clearRow_2 : decode cX6_clearRow 2 = .ok (.invokevirtual 71, 3) := by decide +kernel
theorem dX6_clearRow_5 : decode cX6_clearRow 5 = .ok (.iconst 1, 1) := by decide +kernel
theorem dX6_clearRow_6 : decode cX6_clearRow 6 = .ok (.isub, 1) := by decide +kernel
theorem dX6_clearRow_7 : decode cX6_clearRow 7 = .ok (.istore_n 2, 1) := by decide +kernel
theorem dX6_clearRow_8 : decode cX6_clearRow 8 = .ok (.iload_n 2, 1) := by decide +kernel
theorem dX6_clearRow_9 : decode cX6_clearRow 9 = .ok (.ifCond .lt 15, 3) := by decide +kernel
theorem dX6_clearRow_12 : decode cX6_clearRow 12 = .ok (.aload_n 0, 1) := by decide +kernel
theorem dX6_clearRow_13 : decode cX6_clearRow 13 = .ok (.iload_n 1, 1) := by decide +kernel
theorem dX6_clearRow_14 : decode cX6_clearRow 14 = .ok (.iload_n 2, 1) := by decide +kernel
theorem dX6_clearRow_15 : decode cX6_clearRow 15 = .ok (.invokevirtual 107, 3) := by decide +kernel
theorem dX6_clearRow_18 : decode cX6_clearRow 18 = .ok (.iinc 2 (-1), 3) := by decide +kernel
theorem dX6_clearRow_21 : decode cX6_clearRow 21 = .ok (.goto (-13), 3) := by decide +kernel
theorem dX6_clearRow_24 : decode cX6_clearRow 24 = .ok (.return_, 1) := by decide +kernel
theorem dX6_drop_0 : decode cX6_drop 0 = .ok (.aload_n 0, 1) := by decide +kernel
theorem dX6_drop_1 : decode cX6_drop 1 = .ok (.iload_n 1, 1) := by decide +kernel
theorem dX6_drop_2 : decode cX6_drop 2 = .ok (.invokevirtual 111, 3) := by decide +kernel
theorem dX6_drop_5 : decode cX6_drop 5 = .ok (.aload_n 0, 1) := by decide +kernel
theorem dX6_drop_6 : decode cX6_drop 6 = .ok (.getfield 18, 3) := by decide +kernel
theorem dX6_drop_9 : decode cX6_drop 9 = .ok (.iload_n 1, 1) := by decide +kernel
theorem dX6_drop_10 : decode cX6_drop 10 = .ok (.iconst (-1), 1) := by decide +kernel
theorem dX6_drop_11 : decode cX6_drop 11 = .ok (.invokestatic 100, 3) := by decide +kernel
theorem dX6_drop_14 : decode cX6_drop 14 = .ok (.aload_n 0, 1) := by decide +kernel
theorem dX6_drop_15 : decode cX6_drop 15 = .ok (.getfield 24, 3) := by decide +kernel
theorem dX6_drop_18 : decode cX6_drop 18 = .ok (.iload_n 1, 1) := by decide +kernel
theorem dX6_drop_19 : decode cX6_drop 19 = .ok (.iconst (-1), 1) := by decide +kernel
theorem dX6_drop_20 : decode cX6_drop 20 = .ok (.invokestatic 100, 3) := by decide +kernel
theorem dX6_drop_23 : decode cX6_drop 23 = .ok (.aload_n 0, 1) := by decide +kernel
theorem dX6_drop_24 : decode cX6_drop 24 = .ok (.getfield 27, 3) := by decide +kernel
theorem dX6_drop_27 : decode cX6_drop 27 = .ok (.iload_n 1, 1) := by decide +kernel
theorem dX6_drop_28 : decode cX6_drop 28 = .ok (.iconst (-1), 1) := by decide +kernel
theorem dX6_drop_29 : decode cX6_drop 29 = .ok (.invokestatic 100, 3) := by decide +kernel
theorem dX6_drop_32 : decode cX6_drop 32 = .ok (.return_, 1) := by decide +kernel
theorem dX6_raiseRoot_0 : decode cX6_raiseRoot 0 = .ok (.aload_n 0, 1) := by decide +kernel
theorem dX6_raiseRoot_1 : decode cX6_raiseRoot 1 = .ok (.getfield 43, 3) := by decide +kernel
theorem dX6_raiseRoot_4 : decode cX6_raiseRoot 4 = .ok (.istore_n 1, 1) := by decide +kernel
theorem dX6_raiseRoot_5 : decode cX6_raiseRoot 5 = .ok (.aload_n 0, 1) := by decide +kernel
theorem dX6_raiseRoot_6 : decode cX6_raiseRoot 6 = .ok (.aload_n 0, 1) := by decide +kernel
theorem dX6_raiseRoot_7 : decode cX6_raiseRoot 7 = .ok (.aload_n 0, 1) := by decide +kernel
theorem dX6_raiseRoot_8 : decode cX6_raiseRoot 8 = .ok (.iload_n 1, 1) := by decide +kernel
theorem dX6_raiseRoot_9 : decode cX6_raiseRoot 9 = .ok (.invokevirtual 68, 3) := by decide +kernel
theorem dX6_raiseRoot_12 : decode cX6_raiseRoot 12 = .ok (.iconst 1, 1) := by decide +kernel
theorem dX6_raiseRoot_13 : decode cX6_raiseRoot 13 = .ok (.iadd, 1) := by decide +kernel
theorem dX6_raiseRoot_14 : decode cX6_raiseRoot 14 = .ok (.invokevirtual 39, 3) := by decide +kernel
theorem dX6_raiseRoot_17 : decode cX6_raiseRoot 17 = .ok (.putfield 43, 3) := by decide +kernel
theorem dX6_raiseRoot_20 : decode cX6_raiseRoot 20 = .ok (.aload_n 0, 1) := by decide +kernel
theorem dX6_raiseRoot_21 : decode cX6_raiseRoot 21 = .ok (.aload_n 0, 1) := by decide +kernel
theorem dX6_raiseRoot_22 : decode cX6_raiseRoot 22 = .ok (.getfield 43, 3) := by decide +kernel
theorem dX6_raiseRoot_25 : decode cX6_raiseRoot 25 = .ok (.iconst 0, 1) := by decide +kernel
theorem dX6_raiseRoot_26 : decode cX6_raiseRoot 26 = .ok (.iload_n 1, 1) := by decide +kernel
theorem dX6_raiseRoot_27 : decode cX6_raiseRoot 27 = .ok (.invokevirtual 115, 3) := by decide +kernel
theorem dX6_raiseRoot_30 : decode cX6_raiseRoot 30 = .ok (.return_, 1) := by decide +kernel
theorem dX6_lowerRoot_0 : decode cX6_lowerRoot 0 = .ok (.iconst 0, 1) := by decide +kernel
theorem dX6_lowerRoot_1 : decode cX6_lowerRoot 1 = .ok (.istore_n 1, 1) := by decide +kernel
theorem dX6_lowerRoot_2 : decode cX6_lowerRoot 2 = .ok (.iload_n 1, 1) := by decide +kernel
theorem dX6_lowerRoot_3 : decode cX6_lowerRoot 3 = .ok (.bipush 8, 2) := by decide +kernel
theorem dX6_lowerRoot_5 : decode cX6_lowerRoot 5 = .ok (.if_icmp .ge 52, 3) := by decide +kernel
theorem dX6_lowerRoot_8 : decode cX6_lowerRoot 8 = .ok (.aload_n 0, 1) := by decide +kernel
theorem dX6_lowerRoot_9 : decode cX6_lowerRoot 9 = .ok (.aload_n 0, 1) := by decide +kernel
theorem dX6_lowerRoot_10 : decode cX6_lowerRoot 10 = .ok (.getfield 43, 3) := by decide +kernel
theorem dX6_lowerRoot_13 : decode cX6_lowerRoot 13 = .ok (.invokevirtual 68, 3) := by decide +kernel
theorem dX6_lowerRoot_16 : decode cX6_lowerRoot 16 = .ok (.ifCond .le 41, 3) := by decide +kernel
theorem dX6_lowerRoot_19 : decode cX6_lowerRoot 19 = .ok (.aload_n 0, 1) := by decide +kernel
theorem dX6_lowerRoot_20 : decode cX6_lowerRoot 20 = .ok (.aload_n 0, 1) := by decide +kernel
theorem dX6_lowerRoot_21 : decode cX6_lowerRoot 21 = .ok (.getfield 43, 3) := by decide +kernel
theorem dX6_lowerRoot_24 : decode cX6_lowerRoot 24 = .ok (.invokevirtual 71, 3) := by decide +kernel
theorem dX6_lowerRoot_27 : decode cX6_lowerRoot 27 = .ok (.iconst 1, 1) := by decide +kernel
theorem dX6_lowerRoot_28 : decode cX6_lowerRoot 28 = .ok (.if_icmp .ne 29, 3) := by decide +kernel
theorem dX6_lowerRoot_31 : decode cX6_lowerRoot 31 = .ok (.aload_n 0, 1) := by decide +kernel
theorem dX6_lowerRoot_32 : decode cX6_lowerRoot 32 = .ok (.getfield 43, 3) := by decide +kernel
theorem dX6_lowerRoot_35 : decode cX6_lowerRoot 35 = .ok (.istore_n 2, 1) := by decide +kernel
theorem dX6_lowerRoot_36 : decode cX6_lowerRoot 36 = .ok (.aload_n 0, 1) := by decide +kernel
theorem dX6_lowerRoot_37 : decode cX6_lowerRoot 37 = .ok (.aload_n 0, 1) := by decide +kernel
theorem dX6_lowerRoot_38 : decode cX6_lowerRoot 38 = .ok (.iload_n 2, 1) := by decide +kernel
theorem dX6_lowerRoot_39 : decode cX6_lowerRoot 39 = .ok (.iconst 0, 1) := by decide +kernel
theorem dX6_lowerRoot_40 : decode cX6_lowerRoot 40 = .ok (.invokevirtual 74, 3) := by decide +kernel
theorem dX6_lowerRoot_43 : decode cX6_lowerRoot 43 = .ok (.putfield 43, 3) := by decide +kernel
theorem dX6_lowerRoot_46 : decode cX6_lowerRoot 46 = .ok (.aload_n 0, 1) := by decide +kernel
theorem dX6_lowerRoot_47 : decode cX6_lowerRoot 47 = .ok (.iload_n 2, 1) := by decide +kernel
theorem dX6_lowerRoot_48 : decode cX6_lowerRoot 48 = .ok (.invokevirtual 119, 3) := by decide +kernel
theorem dX6_lowerRoot_51 : decode cX6_lowerRoot 51 = .ok (.iinc 1 1, 3) := by decide +kernel
theorem dX6_lowerRoot_54 : decode cX6_lowerRoot 54 = .ok (.goto (-52), 3) := by decide +kernel
theorem dX6_lowerRoot_57 : decode cX6_lowerRoot 57 = .ok (.return_, 1) := by decide +kernel
