theorem dX7_init_0 : decode cX7_init 0 = .ok (.aload_n 0, 1) := by decide +kernel
theorem dX7_init_1 : decode cX7_init 1 = .ok (.invokespecial 3, 3) := by decide +kernel
theorem dX7_init_4 : decode cX7_init 4 = .ok (.aload_n 0, 1) := by decide +kernel
theorem dX7_init_5 : decode cX7_init 5 = .ok (.new 9, 3) := by decide +kernel
theorem dX7_init_8 : decode cX7_init 8 = .ok (.dup, 1) := by decide +kernel
theorem dX7_init_9 : decode cX7_init 9 = .ok (.invokespecial 11, 3) := by decide +kernel
theorem dX7_init_12 : decode cX7_init 12 = .ok (.putfield 12, 3) := by decide +kernel
theorem dX7_init_15 : decode cX7_init 15 = .ok (.aload_n 0, 1) := by decide +kernel
theorem dX7_init_16 : decode cX7_init 16 = .ok (.new 16, 3) := by decide +kernel
theorem dX7_init_19 : decode cX7_init 19 = .ok (.dup, 1) := by decide +kernel
theorem dX7_init_20 : decode cX7_init 20 = .ok (.aload_n 0, 1) := by decide +kernel
theorem dX7_init_21 : decode cX7_init 21 = .ok (.getfield 12, 3) := by decide +kernel
theorem dX7_init_24 : decode cX7_init 24 = .ok (.invokespecial 18, 3) := by decide +kernel
theorem dX7_init_27 : decode cX7_init 27 = .ok (.putfield 21, 3) := by decide +kernel
theorem dX7_init_30 : decode cX7_init 30 = .ok (.aload_n 0, 1) := by decide +kernel
theorem dX7_init_31 : decode cX7_init 31 = .ok (.new 25, 3) := by decide +kernel
theorem dX7_init_34 : decode cX7_init 34 = .ok (.dup, 1) := by decide +kernel
theorem dX7_init_35 : decode cX7_init 35 = .ok (.aload_n 0, 1) := by decide +kernel
theorem dX7_init_36 : decode cX7_init 36 = .ok (.getfield 12, 3) := by decide +kernel
theorem dX7_init_39 : decode cX7_init 39 = .ok (.aload_n 0, 1) := by decide +kernel
theorem dX7_init_40 : decode cX7_init 40 = .ok (.getfield 21, 3) := by decide +kernel
theorem dX7_init_43 : decode cX7_init 43 = .ok (.invokespecial 27, 3) := by decide +kernel
theorem dX7_init_46 : decode cX7_init 46 = .ok (.putfield 30, 3) := by decide +kernel
theorem dX7_init_49 : decode cX7_init 49 = .ok (.aload_n 0, 1) := by decide +kernel
theorem dX7_init_50 : decode cX7_init 50 = .ok (.new 9, 3) := by decide +kernel
theorem dX7_init_53 : decode cX7_init 53 = .ok (.dup, 1) := by decide +kernel
theorem dX7_init_54 : decode cX7_init 54 = .ok (.invokespecial 11, 3) := by decide +kernel
theorem dX7_init_57 : decode cX7_init 57 = .ok (.putfield 34, 3) := by decide +kernel
theorem dX7_init_60 : decode cX7_init 60 = .ok (.aload_n 0, 1) := by decide +kernel
theorem dX7_init_61 : decode cX7_init 61 = .ok (.new 16, 3) := by decide +kernel
theorem dX7_init_64 : decode cX7_init 64 = .ok (.dup, 1) := by decide +kernel
theorem dX7_init_65 : decode cX7_init 65 = .ok (.aload_n 0, 1) := by decide +kernel
theorem dX7_init_66 : decode cX7_init 66 = .ok (.getfield 34, 3) := by decide +kernel
theorem dX7_init_69 : decode cX7_init 69 = .ok (.invokespecial 18, 3) := by decide +kernel
theorem dX7_init_72 : decode cX7_init 72 = .ok (.putfield 37, 3) := by decide +kernel
theorem dX7_init_75 : decode cX7_init 75 = .ok (.aload_n 0, 1) := by decide +kernel
theorem dX7_init_76 : decode cX7_init 76 = .ok (.new 25, 3) := by decide +kernel
theorem dX7_init_79 : decode cX7_init 79 = .ok (.dup, 1) := by decide +kernel
theorem dX7_init_80 : decode cX7_init 80 = .ok (.aload_n 0, 1) := by decide +kernel
theorem dX7_init_81 : decode cX7_init 81 = .ok (.getfield 34, 3) := by decide +kernel
theorem dX7_init_84 : decode cX7_init 84 = .ok (.aload_n 0, 1) := by decide +kernel
theorem dX7_init_85 : decode cX7_init 85 = .ok (.getfield 37, 3) := by decide +kernel
theorem dX7_init_88 : decode cX7_init 88 = .ok (.invokespecial 27, 3) := by decide +kernel
theorem dX7_init_91 : decode cX7_init 91 = .ok (.putfield 40, 3) := by decide +kernel
theorem dX7_init_94 : decode cX7_init 94 = .ok (.aload_n 0, 1) := by decide +kernel
theorem dX7_init_95 : decode cX7_init 95 = .ok (.new 43, 3) := by decide +kernel
theorem dX7_init_98 : decode cX7_init 98 = .ok (.dup, 1) := by decide +kernel
theorem dX7_init_99 : decode cX7_init 99 = .ok (.invokespecial 45, 3) := by decide +kernel
theorem dX7_init_102 : decode cX7_init 102 = .ok (.putfield 46, 3) := by decide +kernel
theorem dX7_init_105 : decode cX7_init 105 = .ok (.aload_n 0, 1) := by decide +kernel
theorem dX7_init_106 : decode cX7_init 106 = .ok (.new 50, 3) := by decide +kernel
theorem dX7_init_109 : decode cX7_init 109 = .ok (.dup, 1) := by decide +kernel
theorem dX7_init_110 : decode cX7_init 110 = .ok (.invokespecial 52, 3) := by decide +kernel
theorem dX7_init_113 : decode cX7_init 113 = .ok (.putfield 53, 3) := by decide +kernel
theorem dX7_init_116 : decode cX7_init 116 = .ok (.aload_n 0, 1) := by decide +kernel
theorem dX7_init_117 : decode cX7_init 117 = .ok (.bipush 31, 2) := by decide +kernel
theorem dX7_init_119 : decode cX7_init 119 = .ok (.newarray .int, 2) := by decide +kernel
theorem dX7_init_121 : decode cX7_init 121 = .ok (.putfield 57, 3) := by decide +kernel
theorem dX7_init_124 : decode cX7_init 124 = .ok (.return_, 1) := by decide +kernel
theorem dX7_put_0 : decode cX7_put 0 = .ok (.iload_n 1, 1) := by decide +kernel
theorem dX7_put_1 : decode cX7_put 1 = .ok (.invokestatic 61, 3) := by decide +kernel
theorem dX7_put_4 : decode cX7_put 4 = .ok (.ifCond .eq 15, 3) := by decide +kernel
theorem dX7_put_7 : decode cX7_put 7 = .ok (.iload_n 2, 1) := by decide +kernel
theorem dX7_put_8 : decode cX7_put 8 = .ok (.iload_n 3, 1) := by decide +kernel
theorem dX7_put_9 : decode cX7_put 9 = .ok (.iload 4, 2) := by decide +kernel
theorem dX7_put_11 : decode cX7_put 11 = .ok (.iload 5, 2) := by decide +kernel
theorem dX7_put_13 : decode cX7_put 13 = .ok (.invokestatic 65, 3) := by decide +kernel
theorem dX7_put_16 : decode cX7_put 16 = .ok (.ifCond .ne 6, 3) := by decide +kernel
theorem dX7_put_19 : decode cX7_put 19 = .ok (.ldc 69, 2) := by decide +kernel
theorem dX7_put_21 : decode cX7_put 21 = .ok (.ireturn, 1) := by decide +kernel
theorem dX7_put_22 : decode cX7_put 22 = .ok (.aload_n 0, 1) := by decide +kernel
theorem dX7_put_23 : decode cX7_put 23 = .ok (.getfield 12, 3) := by decide +kernel
theorem dX7_put_26 : decode cX7_put 26 = .ok (.iload_n 1, 1) := by decide +kernel
theorem dX7_put_27 : decode cX7_put 27 = .ok (.invokevirtual 70, 3) := by decide +kernel
theorem dX7_put_30 : decode cX7_put 30 = .ok (.ifCond .eq 6, 3) := by decide +kernel
theorem dX7_put_33 : decode cX7_put 33 = .ok (.ldc 73, 2) := by decide +kernel
theorem dX7_put_35 : decode cX7_put 35 = .ok (.ireturn, 1) := by decide +kernel
theorem dX7_put_36 : decode cX7_put 36 = .ok (.aload_n 0, 1) := by decide +kernel
theorem dX7_put_37 : decode cX7_put 37 = .ok (.getfield 46, 3) := by decide +kernel
theorem dX7_put_40 : decode cX7_put 40 = .ok (.aload_n 0, 1) := by decide +kernel
theorem dX7_put_41 : decode cX7_put 41 = .ok (.getfield 12, 3) := by decide +kernel
theorem dX7_put_44 : decode cX7_put 44 = .ok (.invokevirtual 74, 3) := by decide +kernel
theorem dX7_put_47 : decode cX7_put 47 = .ok (.aload_n 0, 1) := by decide +kernel
theorem dX7_put_48 : decode cX7_put 48 = .ok (.getfield 30, 3) := by decide +kernel
theorem dX7_put_51 : decode cX7_put 51 = .ok (.iload_n 1, 1) := by decide +kernel
theorem dX7_put_52 : decode cX7_put 52 = .ok (.iload_n 2, 1) := by decide +kernel
theorem dX7_put_53 : decode cX7_put 53 = .ok (.iload_n 3, 1) := by decide +kernel
theorem dX7_put_54 : decode cX7_put 54 = .ok (.iload 4, 2) := by decide +kernel
theorem dX7_put_56 : decode cX7_put 56 = .ok (.iload 5, 2) := by decide +kernel
theorem dX7_put_58 : decode cX7_put 58 = .ok (.invokestatic 77, 3) := by decide +kernel
theorem dX7_put_61 : decode cX7_put 61 = .ok (.invokevirtual 83, 3) := by decide +kernel
theorem dX7_put_64 : decode cX7_put 64 = .ok (.aload_n 0, 1) := by decide +kernel
theorem dX7_put_65 : decode cX7_put 65 = .ok (.getfield 12, 3) := by decide +kernel
theorem dX7_put_68 : decode cX7_put 68 = .ok (.invokevirtual 87, 3) := by decide +kernel
theorem dX7_put_71 : decode cX7_put 71 = .ok (.ireturn, 1) := by decide +kernel
theorem dX7_take_0 : decode cX7_take 0 = .ok (.iload_n 1, 1) := by decide +kernel
theorem dX7_take_1 : decode cX7_take 1 = .ok (.invokestatic 61, 3) := by decide +kernel
theorem dX7_take_4 : decode cX7_take 4 = .ok (.ifCond .ne 6, 3) := by decide +kernel
theorem dX7_take_7 : decode cX7_take 7 = .ok (.ldc 69, 2) := by decide +kernel
theorem dX7_take_9 : decode cX7_take 9 = .ok (.ireturn, 1) := by decide +kernel
theorem dX7_take_10 : decode cX7_take 10 = .ok (.aload_n 0, 1) := by decide +kernel
theorem dX7_take_11 : decode cX7_take 11 = .ok (.getfield 12, 3) := by decide +kernel
theorem dX7_take_14 : decode cX7_take 14 = .ok (.iload_n 1, 1) := by decide +kernel
theorem dX7_take_15 : decode cX7_take 15 = .ok (.invokevirtual 70, 3) := by decide +kernel
theorem dX7_take_18 : decode cX7_take 18 = .ok (.ifCond .ne 6, 3) := by decide +kernel
theorem dX7_take_21 : decode cX7_take 21 = .ok (.ldc 73, 2) := by decide +kernel
theorem dX7_take_23 : decode cX7_take 23 = .ok (.ireturn, 1) := by decide +kernel
theorem dX7_take_24 : decode cX7_take 24 = .ok (.aload_n 0, 1) := by decide +kernel
theorem dX7_take_25 : decode cX7_take 25 = .ok (.getfield 46, 3) := by decide +kernel
theorem dX7_take_28 : decode cX7_take 28 = .ok (.aload_n 0, 1) := by decide +kernel
theorem dX7_take_29 : decode cX7_take 29 = .ok (.getfield 12, 3) := by decide +kernel
theorem dX7_take_32 : decode cX7_take 32 = .ok (.invokevirtual 74, 3) := by decide +kernel
theorem dX7_take_35 : decode cX7_take 35 = .ok (.aload_n 0, 1) := by decide +kernel
theorem dX7_take_36 : decode cX7_take 36 = .ok (.getfield 30, 3) := by decide +kernel
theorem dX7_take_39 : decode cX7_take 39 = .ok (.iload_n 1, 1) := by decide +kernel
theorem dX7_take_40 : decode cX7_take 40 = .ok (.invokevirtual 91, 3) := by decide +kernel
theorem dX7_take_43 : decode cX7_take 43 = .ok (.aload_n 0, 1) := by decide +kernel
theorem dX7_take_44 : decode cX7_take 44 = .ok (.getfield 12, 3) := by decide +kernel
theorem dX7_take_47 : decode cX7_take 47 = .ok (.invokevirtual 87, 3) := by decide +kernel
theorem dX7_take_50 : decode cX7_take 50 = .ok (.ireturn, 1) := by decide +kernel
theorem dX7_boxOf_0 : decode cX7_boxOf 0 = .ok (.iload_n 1, 1) := by decide +kernel
theorem dX7_boxOf_1 : decode cX7_boxOf 1 = .ok (.invokestatic 61, 3) := by decide +kernel
theorem dX7_boxOf_4 : decode cX7_boxOf 4 = .ok (.ifCond .eq 11, 3) := by decide +kernel
theorem dX7_boxOf_7 : decode cX7_boxOf 7 = .ok (.iload_n 2, 1) := by decide +kernel
theorem dX7_boxOf_8 : decode cX7_boxOf 8 = .ok (.iconst 5, 1) := by decide +kernel
theorem dX7_boxOf_9 : decode cX7_boxOf 9 = .ok (.invokestatic 95, 3) := by decide +kernel
theorem dX7_boxOf_12 : decode cX7_boxOf 12 = .ok (.ifCond .ne 6, 3) := by decide +kernel
theorem dX7_boxOf_15 : decode cX7_boxOf 15 = .ok (.ldc 69, 2) := by decide +kernel
theorem dX7_boxOf_17 : decode cX7_boxOf 17 = .ok (.ireturn, 1) := by decide +kernel
theorem dX7_boxOf_18 : decode cX7_boxOf 18 = .ok (.aload_n 0, 1) := by decide +kernel
theorem dX7_boxOf_19 : decode cX7_boxOf 19 = .ok (.getfield 12, 3) := by decide +kernel
theorem dX7_boxOf_22 : decode cX7_boxOf 22 = .ok (.iload_n 1, 1) := by decide +kernel
theorem dX7_boxOf_23 : decode cX7_boxOf 23 = .ok (.invokevirtual 70, 3) := by decide +kernel
theorem dX7_boxOf_26 : decode cX7_boxOf 26 = .ok (.ifCond .ne 6, 3) := by decide +kernel
theorem dX7_boxOf_29 : decode cX7_boxOf 29 = .ok (.ldc 99, 2) := by decide +kernel
theorem dX7_boxOf_31 : decode cX7_boxOf 31 = .ok (.ireturn, 1) := by decide +kernel
theorem dX7_boxOf_32 : decode cX7_boxOf 32 = .ok (.aload_n 0, 1) := by decide +kernel
theorem dX7_boxOf_33 : decode cX7_boxOf 33 = .ok (.getfield 12, 3) := by decide +kernel
theorem dX7_boxOf_36 : decode cX7_boxOf 36 = .ok (.iload_n 1, 1) := by decide +kernel
theorem dX7_boxOf_37 : decode cX7_boxOf 37 = .ok (.invokevirtual 100, 3) := by decide +kernel
theorem dX7_boxOf_40 : decode cX7_boxOf 40 = .ok (.istore_n 3, 1) := by decide +kernel
theorem dX7_boxOf_41 : decode cX7_boxOf 41 = .ok (.iload_n 2, 1) := by decide +kernel
theorem dX7_boxOf_42 : decode cX7_boxOf 42 = .ok (.iconst 4, 1) := by decide +kernel
theorem dX7_boxOf_43 : decode cX7_boxOf 43 = .ok (.if_icmp .ne 12, 3) := by decide +kernel
theorem dX7_boxOf_46 : decode cX7_boxOf 46 = .ok (.aload_n 0, 1) := by decide +kernel
theorem dX7_boxOf_47 : decode cX7_boxOf 47 = .ok (.getfield 21, 3) := by decide +kernel
theorem dX7_boxOf_50 : decode cX7_boxOf 50 = .ok (.iload_n 3, 1) := by decide +kernel
theorem dX7_boxOf_51 : decode cX7_boxOf 51 = .ok (.invokevirtual 104, 3) := by decide +kernel
theorem dX7_boxOf_54 : decode cX7_boxOf 54 = .ok (.ireturn, 1) := by decide +kernel
theorem dX7_boxOf_55 : decode cX7_boxOf 55 = .ok (.iload_n 2, 1) := by decide +kernel
theorem dX7_boxOf_56 : decode cX7_boxOf 56 = .ok (.iconst 5, 1) := by decide +kernel
theorem dX7_boxOf_57 : decode cX7_boxOf 57 = .ok (.if_icmp .ne 15, 3) := by decide +kernel
theorem dX7_boxOf_60 : decode cX7_boxOf 60 = .ok (.aload_n 0, 1) := by decide +kernel
theorem dX7_boxOf_61 : decode cX7_boxOf 61 = .ok (.getfield 12, 3) := by decide +kernel
theorem dX7_boxOf_64 : decode cX7_boxOf 64 = .ok (.iload_n 3, 1) := by decide +kernel
theorem dX7_boxOf_65 : decode cX7_boxOf 65 = .ok (.iload_n 1, 1) := by decide +kernel
theorem dX7_boxOf_66 : decode cX7_boxOf 66 = .ok (.invokevirtual 107, 3) := by decide +kernel
theorem dX7_boxOf_69 : decode cX7_boxOf 69 = .ok (.goto 16, 3) := by decide +kernel
theorem dX7_boxOf_72 : decode cX7_boxOf 72 = .ok (.aload_n 0, 1) := by decide +kernel
theorem dX7_boxOf_73 : decode cX7_boxOf 73 = .ok (.getfield 12, 3) := by decide +kernel
theorem dX7_boxOf_76 : decode cX7_boxOf 76 = .ok (.iload_n 1, 1) := by decide +kernel
theorem dX7_boxOf_77 : decode cX7_boxOf 77 = .ok (.iconst 0, 1) := by decide +kernel
theorem dX7_boxOf_78 : decode cX7_boxOf 78 = .ok (.invokevirtual 111, 3) := by decide +kernel
theorem dX7_boxOf_81 : decode cX7_boxOf 81 = .ok (.iload_n 2, 1) := by decide +kernel
theorem dX7_boxOf_82 : decode cX7_boxOf 82 = .ok (.invokestatic 114, 3) := by decide +kernel
theorem dX7_boxOf_85 : decode cX7_boxOf 85 = .ok (.ireturn, 1) := by decide +kernel
theorem dX7_nodeOf_0 : decode cX7_nodeOf 0 = .ok (.iload_n 1, 1) := by decide +kernel
theorem dX7_nodeOf_1 : decode cX7_nodeOf 1 = .ok (.ifCond .lt 15, 3) := by decide +kernel
theorem dX7_nodeOf_4 : decode cX7_nodeOf 4 = .ok (.iload_n 2, 1) := by decide +kernel
theorem dX7_nodeOf_5 : decode cX7_nodeOf 5 = .ok (.ifCond .lt 11, 3) := by decide +kernel
theorem dX7_nodeOf_8 : decode cX7_nodeOf 8 = .ok (.iload_n 3, 1) := by decide +kernel
theorem dX7_nodeOf_9 : decode cX7_nodeOf 9 = .ok (.iconst 5, 1) := by decide +kernel
theorem dX7_nodeOf_10 : decode cX7_nodeOf 10 = .ok (.invokestatic 95, 3) := by decide +kernel
theorem dX7_nodeOf_13 : decode cX7_nodeOf 13 = .ok (.ifCond .ne 6, 3) := by decide +kernel
theorem dX7_nodeOf_16 : decode cX7_nodeOf 16 = .ok (.ldc 69, 2) := by decide +kernel
theorem dX7_nodeOf_18 : decode cX7_nodeOf 18 = .ok (.ireturn, 1) := by decide +kernel
theorem dX7_nodeOf_19 : decode cX7_nodeOf 19 = .ok (.aload_n 0, 1) := by decide +kernel
theorem dX7_nodeOf_20 : decode cX7_nodeOf 20 = .ok (.getfield 21, 3) := by decide +kernel
theorem dX7_nodeOf_23 : decode cX7_nodeOf 23 = .ok (.iload_n 1, 1) := by decide +kernel
theorem dX7_nodeOf_24 : decode cX7_nodeOf 24 = .ok (.iload_n 2, 1) := by decide +kernel
theorem dX7_nodeOf_25 : decode cX7_nodeOf 25 = .ok (.invokevirtual 117, 3) := by decide +kernel
theorem dX7_nodeOf_28 : decode cX7_nodeOf 28 = .ok (.istore 4, 2) := by decide +kernel
theorem dX7_nodeOf_30 : decode cX7_nodeOf 30 = .ok (.iload 4, 2) := by decide +kernel
theorem dX7_nodeOf_32 : decode cX7_nodeOf 32 = .ok (.iconst (-1), 1) := by decide +kernel
theorem dX7_nodeOf_33 : decode cX7_nodeOf 33 = .ok (.if_icmp .ne 6, 3) := by decide +kernel
theorem dX7_nodeOf_36 : decode cX7_nodeOf 36 = .ok (.ldc 99, 2) := by decide +kernel
theorem dX7_nodeOf_38 : decode cX7_nodeOf 38 = .ok (.ireturn, 1) := by decide +kernel
theorem dX7_nodeOf_39 : decode cX7_nodeOf 39 = .ok (.aload_n 0, 1) := by decide +kernel
theorem dX7_nodeOf_40 : decode cX7_nodeOf 40 = .ok (.getfield 12, 3) := by decide +kernel
theorem dX7_nodeOf_43 : decode cX7_nodeOf 43 = .ok (.iload 4, 2) := by decide +kernel
theorem dX7_nodeOf_45 : decode cX7_nodeOf 45 = .ok (.invokevirtual 120, 3) := by decide +kernel
theorem dX7_nodeOf_48 : decode cX7_nodeOf 48 = .ok (.istore 5, 2) := by decide +kernel
theorem dX7_nodeOf_50 : decode cX7_nodeOf 50 = .ok (.iload_n 3, 1) := by decide +kernel
theorem dX7_nodeOf_51 : decode cX7_nodeOf 51 = .ok (.iconst 4, 1) := by decide +kernel
theorem dX7_nodeOf_52 : decode cX7_nodeOf 52 = .ok (.if_icmp .ne 6, 3) := by decide +kernel
theorem dX7_nodeOf_55 : decode cX7_nodeOf 55 = .ok (.iload 5, 2) := by decide +kernel
theorem dX7_nodeOf_57 : decode cX7_nodeOf 57 = .ok (.ireturn, 1) := by decide +kernel
theorem dX7_nodeOf_58 : decode cX7_nodeOf 58 = .ok (.iload_n 3, 1) := by decide +kernel
theorem dX7_nodeOf_59 : decode cX7_nodeOf 59 = .ok (.iconst 5, 1) := by decide +kernel
theorem dX7_nodeOf_60 : decode cX7_nodeOf 60 = .ok (.if_icmp .ne 37, 3) := by decide +kernel
theorem dX7_nodeOf_63 : decode cX7_nodeOf 63 = .ok (.iload_n 1, 1) := by decide +kernel
theorem dX7_nodeOf_64 : decode cX7_nodeOf 64 = .ok (.ifCond .ne 15, 3) := by decide +kernel
theorem dX7_nodeOf_67 : decode cX7_nodeOf 67 = .ok (.aload_n 0, 1) := by decide +kernel
theorem dX7_nodeOf_68 : decode cX7_nodeOf 68 = .ok (.getfield 12, 3) := by decide +kernel
theorem dX7_nodeOf_71 : decode cX7_nodeOf 71 = .ok (.iload 4, 2) := by decide +kernel
theorem dX7_nodeOf_73 : decode cX7_nodeOf 73 = .ok (.invokevirtual 123, 3) := by decide +kernel
theorem dX7_nodeOf_76 : decode cX7_nodeOf 76 = .ok (.goto 20, 3) := by decide +kernel
theorem dX7_nodeOf_79 : decode cX7_nodeOf 79 = .ok (.aload_n 0, 1) := by decide +kernel
theorem dX7_nodeOf_80 : decode cX7_nodeOf 80 = .ok (.getfield 21, 3) := by decide +kernel
theorem dX7_nodeOf_83 : decode cX7_nodeOf 83 = .ok (.aload_n 0, 1) := by decide +kernel
theorem dX7_nodeOf_84 : decode cX7_nodeOf 84 = .ok (.getfield 12, 3) := by decide +kernel
theorem dX7_nodeOf_87 : decode cX7_nodeOf 87 = .ok (.iload 4, 2) := by decide +kernel
theorem dX7_nodeOf_89 : decode cX7_nodeOf 89 = .ok (.iconst 0, 1) := by decide +kernel
theorem dX7_nodeOf_90 : decode cX7_nodeOf 90 = .ok (.invokevirtual 126, 3) := by decide +kernel
theorem dX7_nodeOf_93 : decode cX7_nodeOf 93 = .ok (.invokevirtual 104, 3) := by decide +kernel
theorem dX7_nodeOf_96 : decode cX7_nodeOf 96 = .ok (.ireturn, 1) := by decide +kernel
theorem dX7_nodeOf_97 : decode cX7_nodeOf 97 = .ok (.iload 5, 2) := by decide +kernel
theorem dX7_nodeOf_99 : decode cX7_nodeOf 99 = .ok (.ifCond .ne 8, 3) := by decide +kernel
theorem dX7_nodeOf_102 : decode cX7_nodeOf 102 = .ok (.ldc 99, 2) := by decide +kernel
theorem dX7_nodeOf_104 : decode cX7_nodeOf 104 = .ok (.goto 19, 3) := by decide +kernel
theorem dX7_nodeOf_107 : decode cX7_nodeOf 107 = .ok (.aload_n 0, 1) := by decide +kernel
theorem dX7_nodeOf_108 : decode cX7_nodeOf 108 = .ok (.getfield 12, 3) := by decide +kernel
theorem dX7_nodeOf_111 : decode cX7_nodeOf 111 = .ok (.iload 4, 2) := by decide +kernel
theorem dX7_nodeOf_113 : decode cX7_nodeOf 113 = .ok (.iload_n 1, 1) := by decide +kernel
theorem dX7_nodeOf_114 : decode cX7_nodeOf 114 = .ok (.iconst 1, 1) := by decide +kernel
theorem dX7_nodeOf_115 : decode cX7_nodeOf 115 = .ok (.iadd, 1) := by decide +kernel
theorem dX7_nodeOf_116 : decode cX7_nodeOf 116 = .ok (.invokevirtual 111, 3) := by decide +kernel
theorem dX7_nodeOf_119 : decode cX7_nodeOf 119 = .ok (.iload_n 3, 1) := by decide +kernel
theorem dX7_nodeOf_120 : decode cX7_nodeOf 120 = .ok (.invokestatic 114, 3) := by decide +kernel
theorem dX7_nodeOf_123 : decode cX7_nodeOf 123 = .ok (.ireturn, 1) := by decide +kernel
theorem dX7_overlaps_0 : decode cX7_overlaps 0 = .ok (.iload_n 1, 1) := by decide +kernel
theorem dX7_overlaps_1 : decode cX7_overlaps 1 = .ok (.ifCond .ge 6, 3) := by decide +kernel
theorem dX7_overlaps_4 : decode cX7_overlaps 4 = .ok (.ldc 69, 2) := by decide +kernel
theorem dX7_overlaps_6 : decode cX7_overlaps 6 = .ok (.ireturn, 1) := by decide +kernel
theorem dX7_overlaps_7 : decode cX7_overlaps 7 = .ok (.iload_n 1, 1) := by decide +kernel
theorem dX7_overlaps_8 : decode cX7_overlaps 8 = .ok (.aload_n 0, 1) := by decide +kernel
theorem dX7_overlaps_9 : decode cX7_overlaps 9 = .ok (.getfield 12, 3) := by decide +kernel
theorem dX7_overlaps_12 : decode cX7_overlaps 12 = .ok (.invokevirtual 87, 3) := by decide +kernel
theorem dX7_overlaps_15 : decode cX7_overlaps 15 = .ok (.if_icmp .ge 14, 3) := by decide +kernel
theorem dX7_overlaps_18 : decode cX7_overlaps 18 = .ok (.aload_n 0, 1) := by decide +kernel
theorem dX7_overlaps_19 : decode cX7_overlaps 19 = .ok (.getfield 21, 3) := by decide +kernel
theorem dX7_overlaps_22 : decode cX7_overlaps 22 = .ok (.iload_n 1, 1) := by decide +kernel
theorem dX7_overlaps_23 : decode cX7_overlaps 23 = .ok (.invokevirtual 129, 3) := by decide +kernel
theorem dX7_overlaps_26 : decode cX7_overlaps 26 = .ok (.goto 5, 3) := by decide +kernel
theorem dX7_overlaps_29 : decode cX7_overlaps 29 = .ok (.ldc 99, 2) := by decide +kernel
theorem dX7_overlaps_31 : decode cX7_overlaps 31 = .ok (.ireturn, 1) := by decide +kernel
theorem dX7_overlap_0 : decode cX7_overlap 0 = .ok (.iload_n 1, 1) := by decide +kernel
theorem dX7_overlap_1 : decode cX7_overlap 1 = .ok (.invokestatic 61, 3) := by decide +kernel
theorem dX7_overlap_4 : decode cX7_overlap 4 = .ok (.ifCond .eq 10, 3) := by decide +kernel
theorem dX7_overlap_7 : decode cX7_overlap 7 = .ok (.iload_n 2, 1) := by decide +kernel
theorem dX7_overlap_8 : decode cX7_overlap 8 = .ok (.invokestatic 61, 3) := by decide +kernel
theorem dX7_overlap_11 : decode cX7_overlap 11 = .ok (.ifCond .ne 6, 3) := by decide +kernel
theorem dX7_overlap_14 : decode cX7_overlap 14 = .ok (.ldc 69, 2) := by decide +kernel
theorem dX7_overlap_16 : decode cX7_overlap 16 = .ok (.ireturn, 1) := by decide +kernel
theorem dX7_overlap_17 : decode cX7_overlap 17 = .ok (.aload_n 0, 1) := by decide +kernel
theorem dX7_overlap_18 : decode cX7_overlap 18 = .ok (.getfield 12, 3) := by decide +kernel
theorem dX7_overlap_21 : decode cX7_overlap 21 = .ok (.iload_n 1, 1) := by decide +kernel
theorem dX7_overlap_22 : decode cX7_overlap 22 = .ok (.invokevirtual 70, 3) := by decide +kernel
theorem dX7_overlap_25 : decode cX7_overlap 25 = .ok (.ifCond .eq 14, 3) := by decide +kernel
theorem dX7_overlap_28 : decode cX7_overlap 28 = .ok (.aload_n 0, 1) := by decide +kernel
theorem dX7_overlap_29 : decode cX7_overlap 29 = .ok (.getfield 12, 3) := by decide +kernel
theorem dX7_overlap_32 : decode cX7_overlap 32 = .ok (.iload_n 2, 1) := by decide +kernel
theorem dX7_overlap_33 : decode cX7_overlap 33 = .ok (.invokevirtual 70, 3) := by decide +kernel
theorem dX7_overlap_36 : decode cX7_overlap 36 = .ok (.ifCond .ne 6, 3) := by decide +kernel
theorem dX7_overlap_39 : decode cX7_overlap 39 = .ok (.ldc 99, 2) := by decide +kernel
theorem dX7_overlap_41 : decode cX7_overlap 41 = .ok (.ireturn, 1) := by decide +kernel
theorem dX7_overlap_42 : decode cX7_overlap 42 = .ok (.aload_n 0, 1) := by decide +kernel
theorem dX7_overlap_43 : decode cX7_overlap 43 = .ok (.getfield 12, 3) := by decide +kernel
theorem dX7_overlap_46 : decode cX7_overlap 46 = .ok (.iload_n 1, 1) := by decide +kernel
theorem dX7_overlap_47 : decode cX7_overlap 47 = .ok (.iconst 0, 1) := by decide +kernel
theorem dX7_overlap_48 : decode cX7_overlap 48 = .ok (.invokevirtual 111, 3) := by decide +kernel
theorem dX7_overlap_51 : decode cX7_overlap 51 = .ok (.aload_n 0, 1) := by decide +kernel
theorem dX7_overlap_52 : decode cX7_overlap 52 = .ok (.getfield 12, 3) := by decide +kernel
theorem dX7_overlap_55 : decode cX7_overlap 55 = .ok (.iload_n 2, 1) := by decide +kernel
theorem dX7_overlap_56 : decode cX7_overlap 56 = .ok (.iconst 0, 1) := by decide +kernel
theorem dX7_overlap_57 : decode cX7_overlap 57 = .ok (.invokevirtual 111, 3) := by decide +kernel
theorem dX7_overlap_60 : decode cX7_overlap 60 = .ok (.invokestatic 132, 3) := by decide +kernel
theorem dX7_overlap_63 : decode cX7_overlap 63 = .ok (.ireturn, 1) := by decide +kernel
theorem dX7_court_0 : decode cX7_court 0 = .ok (.iload_n 1, 1) := by decide +kernel
theorem dX7_court_1 : decode cX7_court 1 = .ok (.ifCond .lt 11, 3) := by decide +kernel
theorem dX7_court_4 : decode cX7_court 4 = .ok (.iload_n 2, 1) := by decide +kernel
theorem dX7_court_5 : decode cX7_court 5 = .ok (.iconst 1, 1) := by decide +kernel
theorem dX7_court_6 : decode cX7_court 6 = .ok (.invokestatic 95, 3) := by decide +kernel
theorem dX7_court_9 : decode cX7_court 9 = .ok (.ifCond .ne 6, 3) := by decide +kernel
theorem dX7_court_12 : decode cX7_court 12 = .ok (.ldc 69, 2) := by decide +kernel
theorem dX7_court_14 : decode cX7_court 14 = .ok (.ireturn, 1) := by decide +kernel
theorem dX7_court_15 : decode cX7_court 15 = .ok (.iload_n 1, 1) := by decide +kernel
theorem dX7_court_16 : decode cX7_court 16 = .ok (.aload_n 0, 1) := by decide +kernel
theorem dX7_court_17 : decode cX7_court 17 = .ok (.getfield 30, 3) := by decide +kernel
theorem dX7_court_20 : decode cX7_court 20 = .ok (.getfield 135, 3) := by decide +kernel
theorem dX7_court_23 : decode cX7_court 23 = .ok (.if_icmp .lt 6, 3) := by decide +kernel
theorem dX7_court_26 : decode cX7_court 26 = .ok (.ldc 99, 2) := by decide +kernel
theorem dX7_court_28 : decode cX7_court 28 = .ok (.ireturn, 1) := by decide +kernel
theorem dX7_court_29 : decode cX7_court 29 = .ok (.iload_n 2, 1) := by decide +kernel
theorem dX7_court_30 : decode cX7_court 30 = .ok (.ifCond .ne 14, 3) := by decide +kernel
theorem dX7_court_33 : decode cX7_court 33 = .ok (.aload_n 0, 1) := by decide +kernel
theorem dX7_court_34 : decode cX7_court 34 = .ok (.getfield 30, 3) := by decide +kernel
theorem dX7_court_37 : decode cX7_court 37 = .ok (.iload_n 1, 1) := by decide +kernel
theorem dX7_court_38 : decode cX7_court 38 = .ok (.invokevirtual 139, 3) := by decide +kernel
theorem dX7_court_41 : decode cX7_court 41 = .ok (.goto 11, 3) := by decide +kernel
theorem dX7_court_44 : decode cX7_court 44 = .ok (.aload_n 0, 1) := by decide +kernel
theorem dX7_court_45 : decode cX7_court 45 = .ok (.getfield 30, 3) := by decide +kernel
theorem dX7_court_48 : decode cX7_court 48 = .ok (.iload_n 1, 1) := by decide +kernel
theorem dX7_court_49 : decode cX7_court 49 = .ok (.invokevirtual 142, 3) := by decide +kernel
theorem dX7_court_52 : decode cX7_court 52 = .ok (.ireturn, 1) := by decide +kernel
theorem dX7_window_0 : decode cX7_window 0 = .ok (.iload_n 1, 1) := by decide +kernel
theorem dX7_window_1 : decode cX7_window 1 = .ok (.iload_n 2, 1) := by decide +kernel
theorem dX7_window_2 : decode cX7_window 2 = .ok (.iload_n 3, 1) := by decide +kernel
theorem dX7_window_3 : decode cX7_window 3 = .ok (.iload 4, 2) := by decide +kernel
theorem dX7_window_5 : decode cX7_window 5 = .ok (.invokestatic 65, 3) := by decide +kernel
theorem dX7_window_8 : decode cX7_window 8 = .ok (.ifCond .eq 12, 3) := by decide +kernel
theorem dX7_window_11 : decode cX7_window 11 = .ok (.iload 5, 2) := by decide +kernel
theorem dX7_window_13 : decode cX7_window 13 = .ok (.iconst 1, 1) := by decide +kernel
theorem dX7_window_14 : decode cX7_window 14 = .ok (.invokestatic 95, 3) := by decide +kernel
theorem dX7_window_17 : decode cX7_window 17 = .ok (.ifCond .ne 6, 3) := by decide +kernel
theorem dX7_window_20 : decode cX7_window 20 = .ok (.ldc 69, 2) := by decide +kernel
theorem dX7_window_22 : decode cX7_window 22 = .ok (.ireturn, 1) := by decide +kernel
theorem dX7_window_23 : decode cX7_window 23 = .ok (.iload_n 1, 1) := by decide +kernel
theorem dX7_window_24 : decode cX7_window 24 = .ok (.iload_n 2, 1) := by decide +kernel
theorem dX7_window_25 : decode cX7_window 25 = .ok (.iload_n 3, 1) := by decide +kernel
theorem dX7_window_26 : decode cX7_window 26 = .ok (.iload 4, 2) := by decide +kernel
theorem dX7_window_28 : decode cX7_window 28 = .ok (.invokestatic 77, 3) := by decide +kernel
theorem dX7_window_31 : decode cX7_window 31 = .ok (.istore 6, 2) := by decide +kernel
theorem dX7_window_33 : decode cX7_window 33 = .ok (.iload 5, 2) := by decide +kernel
theorem dX7_window_35 : decode cX7_window 35 = .ok (.ifCond .ne 15, 3) := by decide +kernel
theorem dX7_window_38 : decode cX7_window 38 = .ok (.aload_n 0, 1) := by decide +kernel
theorem dX7_window_39 : decode cX7_window 39 = .ok (.getfield 12, 3) := by decide +kernel
theorem dX7_window_42 : decode cX7_window 42 = .ok (.iload 6, 2) := by decide +kernel
theorem dX7_window_44 : decode cX7_window 44 = .ok (.invokevirtual 145, 3) := by decide +kernel
theorem dX7_window_47 : decode cX7_window 47 = .ok (.goto 12, 3) := by decide +kernel
theorem dX7_window_50 : decode cX7_window 50 = .ok (.aload_n 0, 1) := by decide +kernel
theorem dX7_window_51 : decode cX7_window 51 = .ok (.getfield 21, 3) := by decide +kernel
theorem dX7_window_54 : decode cX7_window 54 = .ok (.iload 6, 2) := by decide +kernel
theorem dX7_window_56 : decode cX7_window 56 = .ok (.invokevirtual 148, 3) := by decide +kernel
theorem dX7_window_59 : decode cX7_window 59 = .ok (.ireturn, 1) := by decide +kernel
theorem dX7_nearest_0 : decode cX7_nearest 0 = .ok (.iload_n 1, 1) := by decide +kernel
theorem dX7_nearest_1 : decode cX7_nearest 1 = .ok (.invokestatic 151, 3) := by decide +kernel
theorem dX7_nearest_4 : decode cX7_nearest 4 = .ok (.ifCond .eq 23, 3) := by decide +kernel
theorem dX7_nearest_7 : decode cX7_nearest 7 = .ok (.iload_n 2, 1) := by decide +kernel
theorem dX7_nearest_8 : decode cX7_nearest 8 = .ok (.invokestatic 151, 3) := by decide +kernel
theorem dX7_nearest_11 : decode cX7_nearest 11 = .ok (.ifCond .eq 16, 3) := by decide +kernel
theorem dX7_nearest_14 : decode cX7_nearest 14 = .ok (.iload_n 3, 1) := by decide +kernel
theorem dX7_nearest_15 : decode cX7_nearest 15 = .ok (.ifCond .lt 12, 3) := by decide +kernel
theorem dX7_nearest_18 : decode cX7_nearest 18 = .ok (.iload 4, 2) := by decide +kernel
theorem dX7_nearest_20 : decode cX7_nearest 20 = .ok (.iconst 2, 1) := by decide +kernel
theorem dX7_nearest_21 : decode cX7_nearest 21 = .ok (.invokestatic 95, 3) := by decide +kernel
theorem dX7_nearest_24 : decode cX7_nearest 24 = .ok (.ifCond .ne 6, 3) := by decide +kernel
theorem dX7_nearest_27 : decode cX7_nearest 27 = .ok (.ldc 69, 2) := by decide +kernel
theorem dX7_nearest_29 : decode cX7_nearest 29 = .ok (.ireturn, 1) := by decide +kernel
theorem dX7_nearest_30 : decode cX7_nearest 30 = .ok (.aload_n 0, 1) := by decide +kernel
theorem dX7_nearest_31 : decode cX7_nearest 31 = .ok (.iload_n 1, 1) := by decide +kernel
theorem dX7_nearest_32 : decode cX7_nearest 32 = .ok (.iload_n 2, 1) := by decide +kernel
theorem dX7_nearest_33 : decode cX7_nearest 33 = .ok (.iload_n 3, 1) := by decide +kernel
theorem dX7_nearest_34 : decode cX7_nearest 34 = .ok (.invokevirtual 154, 3) := by decide +kernel
theorem dX7_nearest_37 : decode cX7_nearest 37 = .ok (.istore 5, 2) := by decide +kernel
theorem dX7_nearest_39 : decode cX7_nearest 39 = .ok (.iload 5, 2) := by decide +kernel
theorem dX7_nearest_41 : decode cX7_nearest 41 = .ok (.iconst (-1), 1) := by decide +kernel
theorem dX7_nearest_42 : decode cX7_nearest 42 = .ok (.if_icmp .ne 6, 3) := by decide +kernel
theorem dX7_nearest_45 : decode cX7_nearest 45 = .ok (.ldc 99, 2) := by decide +kernel
theorem dX7_nearest_47 : decode cX7_nearest 47 = .ok (.ireturn, 1) := by decide +kernel
theorem dX7_nearest_48 : decode cX7_nearest 48 = .ok (.iload 4, 2) := by decide +kernel
theorem dX7_nearest_50 : decode cX7_nearest 50 = .ok (.ifCond .ne 6, 3) := by decide +kernel
theorem dX7_nearest_53 : decode cX7_nearest 53 = .ok (.iload 5, 2) := by decide +kernel
theorem dX7_nearest_55 : decode cX7_nearest 55 = .ok (.ireturn, 1) := by decide +kernel
theorem dX7_nearest_56 : decode cX7_nearest 56 = .ok (.aload_n 0, 1) := by decide +kernel
theorem dX7_nearest_57 : decode cX7_nearest 57 = .ok (.getfield 12, 3) := by decide +kernel
theorem dX7_nearest_60 : decode cX7_nearest 60 = .ok (.iload 5, 2) := by decide +kernel
theorem dX7_nearest_62 : decode cX7_nearest 62 = .ok (.iconst 0, 1) := by decide +kernel
theorem dX7_nearest_63 : decode cX7_nearest 63 = .ok (.invokevirtual 111, 3) := by decide +kernel
theorem dX7_nearest_66 : decode cX7_nearest 66 = .ok (.iload_n 1, 1) := by decide +kernel
theorem dX7_nearest_67 : decode cX7_nearest 67 = .ok (.iload_n 2, 1) := by decide +kernel
theorem dX7_nearest_68 : decode cX7_nearest 68 = .ok (.invokestatic 158, 3) := by decide +kernel
theorem dX7_nearest_71 : decode cX7_nearest 71 = .ok (.istore 6, 2) := by decide +kernel
theorem dX7_nearest_73 : decode cX7_nearest 73 = .ok (.iload 4, 2) := by decide +kernel
theorem dX7_nearest_75 : decode cX7_nearest 75 = .ok (.iconst 1, 1) := by decide +kernel
theorem dX7_nearest_76 : decode cX7_nearest 76 = .ok (.if_icmp .ne 8, 3) := by decide +kernel
theorem dX7_nearest_79 : decode cX7_nearest 79 = .ok (.iload 6, 2) := by decide +kernel
theorem dX7_nearest_81 : decode cX7_nearest 81 = .ok (.goto 14, 3) := by decide +kernel
theorem dX7_nearest_84 : decode cX7_nearest 84 = .ok (.aload_n 0, 1) := by decide +kernel
theorem dX7_nearest_85 : decode cX7_nearest 85 = .ok (.getfield 21, 3) := by decide +kernel
theorem dX7_nearest_88 : decode cX7_nearest 88 = .ok (.iload_n 1, 1) := by decide +kernel
theorem dX7_nearest_89 : decode cX7_nearest 89 = .ok (.iload_n 2, 1) := by decide +kernel
theorem dX7_nearest_90 : decode cX7_nearest 90 = .ok (.iload 6, 2) := by decide +kernel
theorem dX7_nearest_92 : decode cX7_nearest 92 = .ok (.invokevirtual 161, 3) := by decide +kernel
theorem dX7_nearest_95 : decode cX7_nearest 95 = .ok (.ireturn, 1) := by decide +kernel
theorem dX7_would_0 : decode cX7_would 0 = .ok (.iload_n 1, 1) := by decide +kernel
theorem dX7_would_1 : decode cX7_would 1 = .ok (.iload_n 2, 1) := by decide +kernel
theorem dX7_would_2 : decode cX7_would 2 = .ok (.iload_n 3, 1) := by decide +kernel
theorem dX7_would_3 : decode cX7_would 3 = .ok (.iload 4, 2) := by decide +kernel
theorem dX7_would_5 : decode cX7_would 5 = .ok (.invokestatic 65, 3) := by decide +kernel
theorem dX7_would_8 : decode cX7_would 8 = .ok (.ifCond .eq 12, 3) := by decide +kernel
theorem dX7_would_11 : decode cX7_would 11 = .ok (.iload 5, 2) := by decide +kernel
theorem dX7_would_13 : decode cX7_would 13 = .ok (.iconst 4, 1) := by decide +kernel
theorem dX7_would_14 : decode cX7_would 14 = .ok (.invokestatic 95, 3) := by decide +kernel
theorem dX7_would_17 : decode cX7_would 17 = .ok (.ifCond .ne 6, 3) := by decide +kernel
theorem dX7_would_20 : decode cX7_would 20 = .ok (.ldc 69, 2) := by decide +kernel
theorem dX7_would_22 : decode cX7_would 22 = .ok (.ireturn, 1) := by decide +kernel
theorem dX7_would_23 : decode cX7_would 23 = .ok (.aload_n 0, 1) := by decide +kernel
theorem dX7_would_24 : decode cX7_would 24 = .ok (.getfield 12, 3) := by decide +kernel
theorem dX7_would_27 : decode cX7_would 27 = .ok (.invokevirtual 164, 3) := by decide +kernel
theorem dX7_would_30 : decode cX7_would 30 = .ok (.istore 6, 2) := by decide +kernel
theorem dX7_would_32 : decode cX7_would 32 = .ok (.iload 6, 2) := by decide +kernel
theorem dX7_would_34 : decode cX7_would 34 = .ok (.iconst (-1), 1) := by decide +kernel
theorem dX7_would_35 : decode cX7_would 35 = .ok (.if_icmp .ne 6, 3) := by decide +kernel
theorem dX7_would_38 : decode cX7_would 38 = .ok (.ldc 73, 2) := by decide +kernel
theorem dX7_would_40 : decode cX7_would 40 = .ok (.ireturn, 1) := by decide +kernel
theorem dX7_would_41 : decode cX7_would 41 = .ok (.iload_n 1, 1) := by decide +kernel
theorem dX7_would_42 : decode cX7_would 42 = .ok (.iload_n 2, 1) := by decide +kernel
theorem dX7_would_43 : decode cX7_would 43 = .ok (.iload_n 3, 1) := by decide +kernel
theorem dX7_would_44 : decode cX7_would 44 = .ok (.iload 4, 2) := by decide +kernel
theorem dX7_would_46 : decode cX7_would 46 = .ok (.invokestatic 77, 3) := by decide +kernel
theorem dX7_would_49 : decode cX7_would 49 = .ok (.istore 7, 2) := by decide +kernel
theorem dX7_would_51 : decode cX7_would 51 = .ok (.aload_n 0, 1) := by decide +kernel
theorem dX7_would_52 : decode cX7_would 52 = .ok (.getfield 12, 3) := by decide +kernel
theorem dX7_would_55 : decode cX7_would 55 = .ok (.iload 7, 2) := by decide +kernel
theorem dX7_would_57 : decode cX7_would 57 = .ok (.iconst 0, 1) := by decide +kernel
theorem dX7_would_58 : decode cX7_would 58 = .ok (.invokevirtual 167, 3) := by decide +kernel
theorem dX7_would_61 : decode cX7_would 61 = .ok (.istore 8, 2) := by decide +kernel
theorem dX7_would_63 : decode cX7_would 63 = .ok (.iload 5, 2) := by decide +kernel
theorem dX7_would_65 : decode cX7_would 65 = .ok (.ifCond .ne 13, 3) := by decide +kernel
theorem dX7_would_68 : decode cX7_would 68 = .ok (.aload_n 0, 1) := by decide +kernel
theorem dX7_would_69 : decode cX7_would 69 = .ok (.getfield 21, 3) := by decide +kernel
theorem dX7_would_72 : decode cX7_would 72 = .ok (.iload 8, 2) := by decide +kernel
theorem dX7_would_74 : decode cX7_would 74 = .ok (.invokevirtual 104, 3) := by decide +kernel
theorem dX7_would_77 : decode cX7_would 77 = .ok (.ireturn, 1) := by decide +kernel
theorem dX7_would_78 : decode cX7_would 78 = .ok (.iload 5, 2) := by decide +kernel
theorem dX7_would_80 : decode cX7_would 80 = .ok (.iconst 1, 1) := by decide +kernel
theorem dX7_would_81 : decode cX7_would 81 = .ok (.if_icmp .ne 22, 3) := by decide +kernel
theorem dX7_would_84 : decode cX7_would 84 = .ok (.aload_n 0, 1) := by decide +kernel
theorem dX7_would_85 : decode cX7_would 85 = .ok (.getfield 12, 3) := by decide +kernel
theorem dX7_would_88 : decode cX7_would 88 = .ok (.iload 8, 2) := by decide +kernel
theorem dX7_would_90 : decode cX7_would 90 = .ok (.invokevirtual 120, 3) := by decide +kernel
theorem dX7_would_93 : decode cX7_would 93 = .ok (.iconst 4, 1) := by decide +kernel
theorem dX7_would_94 : decode cX7_would 94 = .ok (.if_icmp .ge 7, 3) := by decide +kernel
theorem dX7_would_97 : decode cX7_would 97 = .ok (.iconst 0, 1) := by decide +kernel
theorem dX7_would_98 : decode cX7_would 98 = .ok (.goto 4, 3) := by decide +kernel
theorem dX7_would_101 : decode cX7_would 101 = .ok (.iconst 1, 1) := by decide +kernel
theorem dX7_would_102 : decode cX7_would 102 = .ok (.ireturn, 1) := by decide +kernel
theorem dX7_would_103 : decode cX7_would 103 = .ok (.aload_n 0, 1) := by decide +kernel
theorem dX7_would_104 : decode cX7_would 104 = .ok (.getfield 34, 3) := by decide +kernel
theorem dX7_would_107 : decode cX7_would 107 = .ok (.aload_n 0, 1) := by decide +kernel
theorem dX7_would_108 : decode cX7_would 108 = .ok (.getfield 12, 3) := by decide +kernel
theorem dX7_would_111 : decode cX7_would 111 = .ok (.invokevirtual 170, 3) := by decide +kernel
theorem dX7_would_114 : decode cX7_would 114 = .ok (.aload_n 0, 1) := by decide +kernel
theorem dX7_would_115 : decode cX7_would 115 = .ok (.getfield 40, 3) := by decide +kernel
theorem dX7_would_118 : decode cX7_would 118 = .ok (.iload 6, 2) := by decide +kernel
theorem dX7_would_120 : decode cX7_would 120 = .ok (.iload 7, 2) := by decide +kernel
theorem dX7_would_122 : decode cX7_would 122 = .ok (.invokevirtual 83, 3) := by decide +kernel
theorem dX7_would_125 : decode cX7_would 125 = .ok (.iload 5, 2) := by decide +kernel
theorem dX7_would_127 : decode cX7_would 127 = .ok (.iconst 2, 1) := by decide +kernel
theorem dX7_would_128 : decode cX7_would 128 = .ok (.if_icmp .ne 11, 3) := by decide +kernel
theorem dX7_would_131 : decode cX7_would 131 = .ok (.aload_n 0, 1) := by decide +kernel
theorem dX7_would_132 : decode cX7_would 132 = .ok (.getfield 40, 3) := by decide +kernel
theorem dX7_would_135 : decode cX7_would 135 = .ok (.getfield 135, 3) := by decide +kernel
theorem dX7_would_138 : decode cX7_would 138 = .ok (.ireturn, 1) := by decide +kernel
theorem dX7_would_139 : decode cX7_would 139 = .ok (.iload 5, 2) := by decide +kernel
theorem dX7_would_141 : decode cX7_would 141 = .ok (.iconst 3, 1) := by decide +kernel
theorem dX7_would_142 : decode cX7_would 142 = .ok (.if_icmp .ne 13, 3) := by decide +kernel
theorem dX7_would_145 : decode cX7_would 145 = .ok (.aload_n 0, 1) := by decide +kernel
theorem dX7_would_146 : decode cX7_would 146 = .ok (.getfield 34, 3) := by decide +kernel
theorem dX7_would_149 : decode cX7_would 149 = .ok (.invokevirtual 87, 3) := by decide +kernel
theorem dX7_would_152 : decode cX7_would 152 = .ok (.goto 11, 3) := by decide +kernel
theorem dX7_would_155 : decode cX7_would 155 = .ok (.aload_n 0, 1) := by decide +kernel
theorem dX7_would_156 : decode cX7_would 156 = .ok (.getfield 37, 3) := by decide +kernel
theorem dX7_would_159 : decode cX7_would 159 = .ok (.iconst 0, 1) := by decide +kernel
theorem dX7_would_160 : decode cX7_would 160 = .ok (.invokevirtual 129, 3) := by decide +kernel
theorem dX7_would_163 : decode cX7_would 163 = .ok (.ireturn, 1) := by decide +kernel
theorem dX7_wouldTake_0 : decode cX7_wouldTake 0 = .ok (.iload_n 1, 1) := by decide +kernel
theorem dX7_wouldTake_1 : decode cX7_wouldTake 1 = .ok (.invokestatic 61, 3) := by decide +kernel
theorem dX7_wouldTake_4 : decode cX7_wouldTake 4 = .ok (.ifCond .eq 11, 3) := by decide +kernel
theorem dX7_wouldTake_7 : decode cX7_wouldTake 7 = .ok (.iload_n 2, 1) := by decide +kernel
theorem dX7_wouldTake_8 : decode cX7_wouldTake 8 = .ok (.iconst 3, 1) := by decide +kernel
theorem dX7_wouldTake_9 : decode cX7_wouldTake 9 = .ok (.invokestatic 95, 3) := by decide +kernel
theorem dX7_wouldTake_12 : decode cX7_wouldTake 12 = .ok (.ifCond .ne 6, 3) := by decide +kernel
theorem dX7_wouldTake_15 : decode cX7_wouldTake 15 = .ok (.ldc 69, 2) := by decide +kernel
theorem dX7_wouldTake_17 : decode cX7_wouldTake 17 = .ok (.ireturn, 1) := by decide +kernel
theorem dX7_wouldTake_18 : decode cX7_wouldTake 18 = .ok (.aload_n 0, 1) := by decide +kernel
theorem dX7_wouldTake_19 : decode cX7_wouldTake 19 = .ok (.getfield 12, 3) := by decide +kernel
theorem dX7_wouldTake_22 : decode cX7_wouldTake 22 = .ok (.iload_n 1, 1) := by decide +kernel
theorem dX7_wouldTake_23 : decode cX7_wouldTake 23 = .ok (.invokevirtual 70, 3) := by decide +kernel
theorem dX7_wouldTake_26 : decode cX7_wouldTake 26 = .ok (.ifCond .ne 6, 3) := by decide +kernel
theorem dX7_wouldTake_29 : decode cX7_wouldTake 29 = .ok (.ldc 99, 2) := by decide +kernel
theorem dX7_wouldTake_31 : decode cX7_wouldTake 31 = .ok (.ireturn, 1) := by decide +kernel
theorem dX7_wouldTake_32 : decode cX7_wouldTake 32 = .ok (.aload_n 0, 1) := by decide +kernel
theorem dX7_wouldTake_33 : decode cX7_wouldTake 33 = .ok (.getfield 34, 3) := by decide +kernel
theorem dX7_wouldTake_36 : decode cX7_wouldTake 36 = .ok (.aload_n 0, 1) := by decide +kernel
theorem dX7_wouldTake_37 : decode cX7_wouldTake 37 = .ok (.getfield 12, 3) := by decide +kernel
theorem dX7_wouldTake_40 : decode cX7_wouldTake 40 = .ok (.invokevirtual 170, 3) := by decide +kernel
theorem dX7_wouldTake_43 : decode cX7_wouldTake 43 = .ok (.aload_n 0, 1) := by decide +kernel
theorem dX7_wouldTake_44 : decode cX7_wouldTake 44 = .ok (.getfield 40, 3) := by decide +kernel
theorem dX7_wouldTake_47 : decode cX7_wouldTake 47 = .ok (.iload_n 1, 1) := by decide +kernel
theorem dX7_wouldTake_48 : decode cX7_wouldTake 48 = .ok (.invokevirtual 91, 3) := by decide +kernel
theorem dX7_wouldTake_51 : decode cX7_wouldTake 51 = .ok (.iload_n 2, 1) := by decide +kernel
theorem dX7_wouldTake_52 : decode cX7_wouldTake 52 = .ok (.ifCond .ne 19, 3) := by decide +kernel
theorem dX7_wouldTake_55 : decode cX7_wouldTake 55 = .ok (.aload_n 0, 1) := by decide +kernel
theorem dX7_wouldTake_56 : decode cX7_wouldTake 56 = .ok (.getfield 34, 3) := by decide +kernel
theorem dX7_wouldTake_59 : decode cX7_wouldTake 59 = .ok (.getfield 173, 3) := by decide +kernel
theorem dX7_wouldTake_62 : decode cX7_wouldTake 62 = .ok (.aload_n 0, 1) := by decide +kernel
theorem dX7_wouldTake_63 : decode cX7_wouldTake 63 = .ok (.getfield 12, 3) := by decide +kernel
theorem dX7_wouldTake_66 : decode cX7_wouldTake 66 = .ok (.getfield 173, 3) := by decide +kernel
theorem dX7_wouldTake_69 : decode cX7_wouldTake 69 = .ok (.isub, 1) := by decide +kernel
theorem dX7_wouldTake_70 : decode cX7_wouldTake 70 = .ok (.ireturn, 1) := by decide +kernel
theorem dX7_wouldTake_71 : decode cX7_wouldTake 71 = .ok (.iload_n 2, 1) := by decide +kernel
theorem dX7_wouldTake_72 : decode cX7_wouldTake 72 = .ok (.iconst 1, 1) := by decide +kernel
theorem dX7_wouldTake_73 : decode cX7_wouldTake 73 = .ok (.if_icmp .ne 11, 3) := by decide +kernel
theorem dX7_wouldTake_76 : decode cX7_wouldTake 76 = .ok (.aload_n 0, 1) := by decide +kernel
theorem dX7_wouldTake_77 : decode cX7_wouldTake 77 = .ok (.getfield 40, 3) := by decide +kernel
theorem dX7_wouldTake_80 : decode cX7_wouldTake 80 = .ok (.getfield 135, 3) := by decide +kernel
theorem dX7_wouldTake_83 : decode cX7_wouldTake 83 = .ok (.ireturn, 1) := by decide +kernel
theorem dX7_wouldTake_84 : decode cX7_wouldTake 84 = .ok (.iload_n 2, 1) := by decide +kernel
theorem dX7_wouldTake_85 : decode cX7_wouldTake 85 = .ok (.iconst 2, 1) := by decide +kernel
theorem dX7_wouldTake_86 : decode cX7_wouldTake 86 = .ok (.if_icmp .ne 13, 3) := by decide +kernel
theorem dX7_wouldTake_89 : decode cX7_wouldTake 89 = .ok (.aload_n 0, 1) := by decide +kernel
theorem dX7_wouldTake_90 : decode cX7_wouldTake 90 = .ok (.getfield 34, 3) := by decide +kernel
theorem dX7_wouldTake_93 : decode cX7_wouldTake 93 = .ok (.invokevirtual 87, 3) := by decide +kernel
theorem dX7_wouldTake_96 : decode cX7_wouldTake 96 = .ok (.goto 11, 3) := by decide +kernel
theorem dX7_wouldTake_99 : decode cX7_wouldTake 99 = .ok (.aload_n 0, 1) := by decide +kernel
theorem dX7_wouldTake_100 : decode cX7_wouldTake 100 = .ok (.getfield 37, 3) := by decide +kernel
theorem dX7_wouldTake_103 : decode cX7_wouldTake 103 = .ok (.iconst 0, 1) := by decide +kernel
theorem dX7_wouldTake_104 : decode cX7_wouldTake 104 = .ok (.invokevirtual 129, 3) := by decide +kernel
theorem dX7_wouldTake_107 : decode cX7_wouldTake 107 = .ok (.ireturn, 1) := by decide +kernel
theorem dX7_count_0 : decode cX7_count 0 = .ok (.iload_n 1, 1) := by decide +kernel
theorem dX7_count_1 : decode cX7_count 1 = .ok (.tableswitch 150 0 10 #[59, 70, 78, 86, 94, 102, 110, 118, 126, 134, 142], 59) := by decide +kernel
theorem dX7_count_60 : decode cX7_count 60 = .ok (.aload_n 0, 1) := by decide +kernel
theorem dX7_count_61 : decode cX7_count 61 = .ok (.getfield 12, 3) := by decide +kernel
theorem dX7_count_64 : decode cX7_count 64 = .ok (.invokevirtual 176, 3) := by decide +kernel
theorem dX7_count_67 : decode cX7_count 67 = .ok (.invokestatic 179, 3) := by decide +kernel
theorem dX7_count_70 : decode cX7_count 70 = .ok (.ireturn, 1) := by decide +kernel
theorem dX7_count_71 : decode cX7_count 71 = .ok (.aload_n 0, 1) := by decide +kernel
theorem dX7_count_72 : decode cX7_count 72 = .ok (.getfield 12, 3) := by decide +kernel
theorem dX7_count_75 : decode cX7_count 75 = .ok (.invokevirtual 87, 3) := by decide +kernel
theorem dX7_count_78 : decode cX7_count 78 = .ok (.ireturn, 1) := by decide +kernel
theorem dX7_count_79 : decode cX7_count 79 = .ok (.aload_n 0, 1) := by decide +kernel
theorem dX7_count_80 : decode cX7_count 80 = .ok (.getfield 21, 3) := by decide +kernel
theorem dX7_count_83 : decode cX7_count 83 = .ok (.invokevirtual 184, 3) := by decide +kernel
theorem dX7_count_86 : decode cX7_count 86 = .ok (.ireturn, 1) := by decide +kernel
theorem dX7_count_87 : decode cX7_count 87 = .ok (.aload_n 0, 1) := by decide +kernel
theorem dX7_count_88 : decode cX7_count 88 = .ok (.getfield 21, 3) := by decide +kernel
theorem dX7_count_91 : decode cX7_count 91 = .ok (.invokevirtual 187, 3) := by decide +kernel
theorem dX7_count_94 : decode cX7_count 94 = .ok (.ireturn, 1) := by decide +kernel
theorem dX7_count_95 : decode cX7_count 95 = .ok (.aload_n 0, 1) := by decide +kernel
theorem dX7_count_96 : decode cX7_count 96 = .ok (.getfield 30, 3) := by decide +kernel
theorem dX7_count_99 : decode cX7_count 99 = .ok (.getfield 135, 3) := by decide +kernel
theorem dX7_count_102 : decode cX7_count 102 = .ok (.ireturn, 1) := by decide +kernel
theorem dX7_count_103 : decode cX7_count 103 = .ok (.aload_n 0, 1) := by decide +kernel
theorem dX7_count_104 : decode cX7_count 104 = .ok (.getfield 12, 3) := by decide +kernel
theorem dX7_count_107 : decode cX7_count 107 = .ok (.getfield 190, 3) := by decide +kernel
theorem dX7_count_110 : decode cX7_count 110 = .ok (.ireturn, 1) := by decide +kernel
theorem dX7_count_111 : decode cX7_count 111 = .ok (.aload_n 0, 1) := by decide +kernel
theorem dX7_count_112 : decode cX7_count 112 = .ok (.getfield 12, 3) := by decide +kernel
theorem dX7_count_115 : decode cX7_count 115 = .ok (.getfield 191, 3) := by decide +kernel
theorem dX7_count_118 : decode cX7_count 118 = .ok (.ireturn, 1) := by decide +kernel
theorem dX7_count_119 : decode cX7_count 119 = .ok (.aload_n 0, 1) := by decide +kernel
theorem dX7_count_120 : decode cX7_count 120 = .ok (.getfield 12, 3) := by decide +kernel
theorem dX7_count_123 : decode cX7_count 123 = .ok (.getfield 173, 3) := by decide +kernel
theorem dX7_count_126 : decode cX7_count 126 = .ok (.ireturn, 1) := by decide +kernel
theorem dX7_count_127 : decode cX7_count 127 = .ok (.aload_n 0, 1) := by decide +kernel
theorem dX7_count_128 : decode cX7_count 128 = .ok (.getfield 46, 3) := by decide +kernel
theorem dX7_count_131 : decode cX7_count 131 = .ok (.getfield 194, 3) := by decide +kernel
theorem dX7_count_134 : decode cX7_count 134 = .ok (.ireturn, 1) := by decide +kernel
theorem dX7_count_135 : decode cX7_count 135 = .ok (.aload_n 0, 1) := by decide +kernel
theorem dX7_count_136 : decode cX7_count 136 = .ok (.getfield 53, 3) := by decide +kernel
theorem dX7_count_139 : decode cX7_count 139 = .ok (.getfield 197, 3) := by decide +kernel
theorem dX7_count_142 : decode cX7_count 142 = .ok (.ireturn, 1) := by decide +kernel
theorem dX7_count_143 : decode cX7_count 143 = .ok (.aload_n 0, 1) := by decide +kernel
theorem dX7_count_144 : decode cX7_count 144 = .ok (.getfield 21, 3) := by decide +kernel
theorem dX7_count_147 : decode cX7_count 147 = .ok (.invokevirtual 200, 3) := by decide +kernel
theorem dX7_count_150 : decode cX7_count 150 = .ok (.ireturn, 1) := by decide +kernel
theorem dX7_count_151 : decode cX7_count 151 = .ok (.ldc 69, 2) := by decide +kernel
theorem dX7_count_153 : decode cX7_count 153 = .ok (.ireturn, 1) := by decide +kernel
theorem dX7_undo_0 : decode cX7_undo 0 = .ok (.aload_n 0, 1) := by decide +kernel
theorem dX7_undo_1 : decode cX7_undo 1 = .ok (.getfield 46, 3) := by decide +kernel
theorem dX7_undo_4 : decode cX7_undo 4 = .ok (.getfield 194, 3) := by decide +kernel
theorem dX7_undo_7 : decode cX7_undo 7 = .ok (.ifCond .ne 6, 3) := by decide +kernel
theorem dX7_undo_10 : decode cX7_undo 10 = .ok (.ldc 73, 2) := by decide +kernel
theorem dX7_undo_12 : decode cX7_undo 12 = .ok (.ireturn, 1) := by decide +kernel
theorem dX7_undo_13 : decode cX7_undo 13 = .ok (.aload_n 0, 1) := by decide +kernel
theorem dX7_undo_14 : decode cX7_undo 14 = .ok (.getfield 46, 3) := by decide +kernel
theorem dX7_undo_17 : decode cX7_undo 17 = .ok (.aload_n 0, 1) := by decide +kernel
theorem dX7_undo_18 : decode cX7_undo 18 = .ok (.getfield 12, 3) := by decide +kernel
theorem dX7_undo_21 : decode cX7_undo 21 = .ok (.invokevirtual 203, 3) := by decide +kernel
theorem dX7_undo_24 : decode cX7_undo 24 = .ok (.aload_n 0, 1) := by decide +kernel
theorem dX7_undo_25 : decode cX7_undo 25 = .ok (.getfield 46, 3) := by decide +kernel
theorem dX7_undo_28 : decode cX7_undo 28 = .ok (.getfield 194, 3) := by decide +kernel
theorem dX7_undo_31 : decode cX7_undo 31 = .ok (.ireturn, 1) := by decide +kernel
theorem dX7_type_0 : decode cX7_type 0 = .ok (.iload_n 1, 1) := by decide +kernel
theorem dX7_type_1 : decode cX7_type 1 = .ok (.bipush 32, 2) := by decide +kernel
theorem dX7_type_3 : decode cX7_type 3 = .ok (.if_icmp .lt 9, 3) := by decide +kernel
theorem dX7_type_6 : decode cX7_type 6 = .ok (.iload_n 1, 1) := by decide +kernel
theorem dX7_type_7 : decode cX7_type 7 = .ok (.bipush 126, 2) := by decide +kernel
theorem dX7_type_9 : decode cX7_type 9 = .ok (.if_icmp .le 6, 3) := by decide +kernel
theorem dX7_type_12 : decode cX7_type 12 = .ok (.ldc 69, 2) := by decide +kernel
theorem dX7_type_14 : decode cX7_type 14 = .ok (.ireturn, 1) := by decide +kernel
theorem dX7_type_15 : decode cX7_type 15 = .ok (.aload_n 0, 1) := by decide +kernel
theorem dX7_type_16 : decode cX7_type 16 = .ok (.getfield 53, 3) := by decide +kernel
theorem dX7_type_19 : decode cX7_type 19 = .ok (.getfield 197, 3) := by decide +kernel
theorem dX7_type_22 : decode cX7_type 22 = .ok (.bipush 60, 2) := by decide +kernel
theorem dX7_type_24 : decode cX7_type 24 = .ok (.if_icmp .lt 6, 3) := by decide +kernel
theorem dX7_type_27 : decode cX7_type 27 = .ok (.ldc 206, 2) := by decide +kernel
theorem dX7_type_29 : decode cX7_type 29 = .ok (.ireturn, 1) := by decide +kernel
theorem dX7_type_30 : decode cX7_type 30 = .ok (.aload_n 0, 1) := by decide +kernel
theorem dX7_type_31 : decode cX7_type 31 = .ok (.getfield 53, 3) := by decide +kernel
theorem dX7_type_34 : decode cX7_type 34 = .ok (.iload_n 1, 1) := by decide +kernel
theorem dX7_type_35 : decode cX7_type 35 = .ok (.invokevirtual 207, 3) := by decide +kernel
theorem dX7_type_38 : decode cX7_type 38 = .ok (.aload_n 0, 1) := by decide +kernel
theorem dX7_type_39 : decode cX7_type 39 = .ok (.getfield 53, 3) := by decide +kernel
theorem dX7_type_42 : decode cX7_type 42 = .ok (.getfield 197, 3) := by decide +kernel
theorem dX7_type_45 : decode cX7_type 45 = .ok (.ireturn, 1) := by decide +kernel
theorem dX7_clearText_0 : decode cX7_clearText 0 = .ok (.aload_n 0, 1) := by decide +kernel
theorem dX7_clearText_1 : decode cX7_clearText 1 = .ok (.getfield 53, 3) := by decide +kernel
theorem dX7_clearText_4 : decode cX7_clearText 4 = .ok (.getfield 197, 3) := by decide +kernel
theorem dX7_clearText_7 : decode cX7_clearText 7 = .ok (.istore_n 1, 1) := by decide +kernel
theorem dX7_clearText_8 : decode cX7_clearText 8 = .ok (.aload_n 0, 1) := by decide +kernel
theorem dX7_clearText_9 : decode cX7_clearText 9 = .ok (.getfield 53, 3) := by decide +kernel
theorem dX7_clearText_12 : decode cX7_clearText 12 = .ok (.iconst 0, 1) := by decide +kernel
theorem dX7_clearText_13 : decode cX7_clearText 13 = .ok (.putfield 197, 3) := by decide +kernel
theorem dX7_clearText_16 : decode cX7_clearText 16 = .ok (.iload_n 1, 1) := by decide +kernel
theorem dX7_clearText_17 : decode cX7_clearText 17 = .ok (.ireturn, 1) := by decide +kernel
theorem dX7_fault_0 : decode cX7_fault 0 = .ok (.iload_n 1, 1) := by decide +kernel
theorem dX7_fault_1 : decode cX7_fault 1 = .ok (.iconst 2, 1) := by decide +kernel
theorem dX7_fault_2 : decode cX7_fault 2 = .ok (.invokestatic 95, 3) := by decide +kernel
theorem dX7_fault_5 : decode cX7_fault 5 = .ok (.ifCond .ne 6, 3) := by decide +kernel
theorem dX7_fault_8 : decode cX7_fault 8 = .ok (.ldc 69, 2) := by decide +kernel
theorem dX7_fault_10 : decode cX7_fault 10 = .ok (.ireturn, 1) := by decide +kernel
theorem dX7_fault_11 : decode cX7_fault 11 = .ok (.aload_n 0, 1) := by decide +kernel
theorem dX7_fault_12 : decode cX7_fault 12 = .ok (.getfield 53, 3) := by decide +kernel
theorem dX7_fault_15 : decode cX7_fault 15 = .ok (.aload_n 0, 1) := by decide +kernel
theorem dX7_fault_16 : decode cX7_fault 16 = .ok (.getfield 12, 3) := by decide +kernel
theorem dX7_fault_19 : decode cX7_fault 19 = .ok (.invokevirtual 176, 3) := by decide +kernel
theorem dX7_fault_22 : decode cX7_fault 22 = .ok (.invokevirtual 210, 3) := by decide +kernel
theorem dX7_fault_25 : decode cX7_fault 25 = .ok (.aload_n 0, 1) := by decide +kernel
theorem dX7_fault_26 : decode cX7_fault 26 = .ok (.getfield 53, 3) := by decide +kernel
theorem dX7_fault_29 : decode cX7_fault 29 = .ok (.getfield 213, 3) := by decide +kernel
theorem dX7_fault_32 : decode cX7_fault 32 = .ok (.ifCond .ne 6, 3) := by decide +kernel
theorem dX7_fault_35 : decode cX7_fault 35 = .ok (.ldc 99, 2) := by decide +kernel
theorem dX7_fault_37 : decode cX7_fault 37 = .ok (.ireturn, 1) := by decide +kernel
theorem dX7_fault_38 : decode cX7_fault 38 = .ok (.iload_n 1, 1) := by decide +kernel
theorem dX7_fault_39 : decode cX7_fault 39 = .ok (.ifCond .ne 11, 3) := by decide +kernel
theorem dX7_fault_42 : decode cX7_fault 42 = .ok (.aload_n 0, 1) := by decide +kernel
theorem dX7_fault_43 : decode cX7_fault 43 = .ok (.getfield 53, 3) := by decide +kernel
theorem dX7_fault_46 : decode cX7_fault 46 = .ok (.getfield 216, 3) := by decide +kernel
theorem dX7_fault_49 : decode cX7_fault 49 = .ok (.ireturn, 1) := by decide +kernel
theorem dX7_fault_50 : decode cX7_fault 50 = .ok (.iload_n 1, 1) := by decide +kernel
theorem dX7_fault_51 : decode cX7_fault 51 = .ok (.iconst 1, 1) := by decide +kernel
theorem dX7_fault_52 : decode cX7_fault 52 = .ok (.if_icmp .ne 11, 3) := by decide +kernel
theorem dX7_fault_55 : decode cX7_fault 55 = .ok (.aload_n 0, 1) := by decide +kernel
theorem dX7_fault_56 : decode cX7_fault 56 = .ok (.getfield 53, 3) := by decide +kernel
theorem dX7_fault_59 : decode cX7_fault 59 = .ok (.getfield 213, 3) := by decide +kernel
theorem dX7_fault_62 : decode cX7_fault 62 = .ok (.ireturn, 1) := by decide +kernel
theorem dX7_fault_63 : decode cX7_fault 63 = .ok (.aload_n 0, 1) := by decide +kernel
theorem dX7_fault_64 : decode cX7_fault 64 = .ok (.getfield 53, 3) := by decide +kernel
theorem dX7_fault_67 : decode cX7_fault 67 = .ok (.getfield 219, 3) := by decide +kernel
theorem dX7_fault_70 : decode cX7_fault 70 = .ok (.iconst (-1), 1) := by decide +kernel
theorem dX7_fault_71 : decode cX7_fault 71 = .ok (.if_icmp .ne 8, 3) := by decide +kernel
theorem dX7_fault_74 : decode cX7_fault 74 = .ok (.ldc 99, 2) := by decide +kernel
theorem dX7_fault_76 : decode cX7_fault 76 = .ok (.goto 10, 3) := by decide +kernel
theorem dX7_fault_79 : decode cX7_fault 79 = .ok (.aload_n 0, 1) := by decide +kernel
theorem dX7_fault_80 : decode cX7_fault 80 = .ok (.getfield 53, 3) := by decide +kernel
theorem dX7_fault_83 : decode cX7_fault 83 = .ok (.getfield 219, 3) := by decide +kernel
theorem dX7_fault_86 : decode cX7_fault 86 = .ok (.ireturn, 1) := by decide +kernel
theorem dX7_play_0 : decode cX7_play 0 = .ok (.aload_n 0, 1) := by decide +kernel
theorem dX7_play_1 : decode cX7_play 1 = .ok (.getfield 53, 3) := by decide +kernel
theorem dX7_play_4 : decode cX7_play 4 = .ok (.aload_n 0, 1) := by decide +kernel
theorem dX7_play_5 : decode cX7_play 5 = .ok (.getfield 12, 3) := by decide +kernel
theorem dX7_play_8 : decode cX7_play 8 = .ok (.invokevirtual 176, 3) := by decide +kernel
theorem dX7_play_11 : decode cX7_play 11 = .ok (.invokevirtual 210, 3) := by decide +kernel
theorem dX7_play_14 : decode cX7_play 14 = .ok (.aload_n 0, 1) := by decide +kernel
theorem dX7_play_15 : decode cX7_play 15 = .ok (.getfield 53, 3) := by decide +kernel
theorem dX7_play_18 : decode cX7_play 18 = .ok (.getfield 213, 3) := by decide +kernel
theorem dX7_play_21 : decode cX7_play 21 = .ok (.ifCond .eq 6, 3) := by decide +kernel
theorem dX7_play_24 : decode cX7_play 24 = .ok (.ldc 73, 2) := by decide +kernel
theorem dX7_play_26 : decode cX7_play 26 = .ok (.ireturn, 1) := by decide +kernel
theorem dX7_play_27 : decode cX7_play 27 = .ok (.aload_n 0, 1) := by decide +kernel
theorem dX7_play_28 : decode cX7_play 28 = .ok (.getfield 46, 3) := by decide +kernel
theorem dX7_play_31 : decode cX7_play 31 = .ok (.aload_n 0, 1) := by decide +kernel
theorem dX7_play_32 : decode cX7_play 32 = .ok (.getfield 12, 3) := by decide +kernel
theorem dX7_play_35 : decode cX7_play 35 = .ok (.invokevirtual 74, 3) := by decide +kernel
theorem dX7_play_38 : decode cX7_play 38 = .ok (.iconst 0, 1) := by decide +kernel
theorem dX7_play_39 : decode cX7_play 39 = .ok (.istore_n 1, 1) := by decide +kernel
theorem dX7_play_40 : decode cX7_play 40 = .ok (.iconst 0, 1) := by decide +kernel
theorem dX7_play_41 : decode cX7_play 41 = .ok (.istore_n 2, 1) := by decide +kernel
theorem dX7_play_42 : decode cX7_play 42 = .ok (.iload_n 2, 1) := by decide +kernel
theorem dX7_play_43 : decode cX7_play 43 = .ok (.aload_n 0, 1) := by decide +kernel
theorem dX7_play_44 : decode cX7_play 44 = .ok (.getfield 53, 3) := by decide +kernel
theorem dX7_play_47 : decode cX7_play 47 = .ok (.getfield 222, 3) := by decide +kernel
theorem dX7_play_50 : decode cX7_play 50 = .ok (.if_icmp .ge 104, 3) := by decide +kernel
theorem dX7_play_53 : decode cX7_play 53 = .ok (.aload_n 0, 1) := by decide +kernel
theorem dX7_play_54 : decode cX7_play 54 = .ok (.getfield 53, 3) := by decide +kernel
theorem dX7_play_57 : decode cX7_play 57 = .ok (.iload_n 1, 1) := by decide +kernel
theorem dX7_play_58 : decode cX7_play 58 = .ok (.invokevirtual 225, 3) := by decide +kernel
theorem dX7_play_61 : decode cX7_play 61 = .ok (.pop, 1) := by decide +kernel
theorem dX7_play_62 : decode cX7_play 62 = .ok (.aload_n 0, 1) := by decide +kernel
theorem dX7_play_63 : decode cX7_play 63 = .ok (.getfield 53, 3) := by decide +kernel
theorem dX7_play_66 : decode cX7_play 66 = .ok (.getfield 228, 3) := by decide +kernel
theorem dX7_play_69 : decode cX7_play 69 = .ok (.istore_n 1, 1) := by decide +kernel
theorem dX7_play_70 : decode cX7_play 70 = .ok (.aload_n 0, 1) := by decide +kernel
theorem dX7_play_71 : decode cX7_play 71 = .ok (.getfield 53, 3) := by decide +kernel
theorem dX7_play_74 : decode cX7_play 74 = .ok (.getfield 231, 3) := by decide +kernel
theorem dX7_play_77 : decode cX7_play 77 = .ok (.ifCond .eq 56, 3) := by decide +kernel
theorem dX7_play_80 : decode cX7_play 80 = .ok (.aload_n 0, 1) := by decide +kernel
theorem dX7_play_81 : decode cX7_play 81 = .ok (.getfield 30, 3) := by decide +kernel
theorem dX7_play_84 : decode cX7_play 84 = .ok (.aload_n 0, 1) := by decide +kernel
theorem dX7_play_85 : decode cX7_play 85 = .ok (.getfield 53, 3) := by decide +kernel
theorem dX7_play_88 : decode cX7_play 88 = .ok (.iconst 0, 1) := by decide +kernel
theorem dX7_play_89 : decode cX7_play 89 = .ok (.invokevirtual 235, 3) := by decide +kernel
theorem dX7_play_92 : decode cX7_play 92 = .ok (.aload_n 0, 1) := by decide +kernel
theorem dX7_play_93 : decode cX7_play 93 = .ok (.getfield 53, 3) := by decide +kernel
theorem dX7_play_96 : decode cX7_play 96 = .ok (.iconst 1, 1) := by decide +kernel
theorem dX7_play_97 : decode cX7_play 97 = .ok (.invokevirtual 235, 3) := by decide +kernel
theorem dX7_play_100 : decode cX7_play 100 = .ok (.aload_n 0, 1) := by decide +kernel
theorem dX7_play_101 : decode cX7_play 101 = .ok (.getfield 53, 3) := by decide +kernel
theorem dX7_play_104 : decode cX7_play 104 = .ok (.iconst 2, 1) := by decide +kernel
theorem dX7_play_105 : decode cX7_play 105 = .ok (.invokevirtual 235, 3) := by decide +kernel
theorem dX7_play_108 : decode cX7_play 108 = .ok (.aload_n 0, 1) := by decide +kernel
theorem dX7_play_109 : decode cX7_play 109 = .ok (.getfield 53, 3) := by decide +kernel
theorem dX7_play_112 : decode cX7_play 112 = .ok (.iconst 3, 1) := by decide +kernel
theorem dX7_play_113 : decode cX7_play 113 = .ok (.invokevirtual 235, 3) := by decide +kernel
theorem dX7_play_116 : decode cX7_play 116 = .ok (.aload_n 0, 1) := by decide +kernel
theorem dX7_play_117 : decode cX7_play 117 = .ok (.getfield 53, 3) := by decide +kernel
theorem dX7_play_120 : decode cX7_play 120 = .ok (.iconst 4, 1) := by decide +kernel
theorem dX7_play_121 : decode cX7_play 121 = .ok (.invokevirtual 235, 3) := by decide +kernel
theorem dX7_play_124 : decode cX7_play 124 = .ok (.invokestatic 77, 3) := by decide +kernel
theorem dX7_play_127 : decode cX7_play 127 = .ok (.invokevirtual 83, 3) := by decide +kernel
theorem dX7_play_130 : decode cX7_play 130 = .ok (.goto 18, 3) := by decide +kernel
theorem dX7_play_133 : decode cX7_play 133 = .ok (.aload_n 0, 1) := by decide +kernel
theorem dX7_play_134 : decode cX7_play 134 = .ok (.getfield 30, 3) := by decide +kernel
theorem dX7_play_137 : decode cX7_play 137 = .ok (.aload_n 0, 1) := by decide +kernel
theorem dX7_play_138 : decode cX7_play 138 = .ok (.getfield 53, 3) := by decide +kernel
theorem dX7_play_141 : decode cX7_play 141 = .ok (.iconst 0, 1) := by decide +kernel
theorem dX7_play_142 : decode cX7_play 142 = .ok (.invokevirtual 235, 3) := by decide +kernel
theorem dX7_play_145 : decode cX7_play 145 = .ok (.invokevirtual 91, 3) := by decide +kernel
theorem dX7_play_148 : decode cX7_play 148 = .ok (.iinc 2 1, 3) := by decide +kernel
theorem dX7_play_151 : decode cX7_play 151 = .ok (.goto (-109), 3) := by decide +kernel
theorem dX7_play_154 : decode cX7_play 154 = .ok (.aload_n 0, 1) := by decide +kernel
theorem dX7_play_155 : decode cX7_play 155 = .ok (.getfield 53, 3) := by decide +kernel
theorem dX7_play_158 : decode cX7_play 158 = .ok (.getfield 222, 3) := by decide +kernel
theorem dX7_play_161 : decode cX7_play 161 = .ok (.ireturn, 1) := by decide +kernel
theorem dX7_isUpTo_0 : decode cX7_isUpTo 0 = .ok (.iload_n 0, 1) := by decide +kernel
theorem dX7_isUpTo_1 : decode cX7_isUpTo 1 = .ok (.ifCond .lt 12, 3) := by decide +kernel
theorem dX7_isUpTo_4 : decode cX7_isUpTo 4 = .ok (.iload_n 0, 1) := by decide +kernel
theorem dX7_isUpTo_5 : decode cX7_isUpTo 5 = .ok (.iload_n 1, 1) := by decide +kernel
theorem dX7_isUpTo_6 : decode cX7_isUpTo 6 = .ok (.if_icmp .gt 7, 3) := by decide +kernel
theorem dX7_isUpTo_9 : decode cX7_isUpTo 9 = .ok (.iconst 1, 1) := by decide +kernel
theorem dX7_isUpTo_10 : decode cX7_isUpTo 10 = .ok (.goto 4, 3) := by decide +kernel
theorem dX7_isUpTo_13 : decode cX7_isUpTo 13 = .ok (.iconst 0, 1) := by decide +kernel
theorem dX7_isUpTo_14 : decode cX7_isUpTo 14 = .ok (.ireturn, 1) := by decide +kernel
theorem dX7_isBox_0 : decode cX7_isBox 0 = .ok (.iload_n 0, 1) := by decide +kernel
theorem dX7_isBox_1 : decode cX7_isBox 1 = .ok (.bipush 30, 2) := by decide +kernel
theorem dX7_isBox_3 : decode cX7_isBox 3 = .ok (.invokestatic 95, 3) := by decide +kernel
theorem dX7_isBox_6 : decode cX7_isBox 6 = .ok (.ireturn, 1) := by decide +kernel
theorem dX7_isPoint_0 : decode cX7_isPoint 0 = .ok (.iload_n 0, 1) := by decide +kernel
theorem dX7_isPoint_1 : decode cX7_isPoint 1 = .ok (.bipush 99, 2) := by decide +kernel
theorem dX7_isPoint_3 : decode cX7_isPoint 3 = .ok (.invokestatic 95, 3) := by decide +kernel
theorem dX7_isPoint_6 : decode cX7_isPoint 6 = .ok (.ireturn, 1) := by decide +kernel
theorem dX7_isWindow_0 : decode cX7_isWindow 0 = .ok (.iload_n 0, 1) := by decide +kernel
theorem dX7_isWindow_1 : decode cX7_isWindow 1 = .ok (.invokestatic 151, 3) := by decide +kernel
theorem dX7_isWindow_4 : decode cX7_isWindow 4 = .ok (.ifCond .eq 38, 3) := by decide +kernel
theorem dX7_isWindow_7 : decode cX7_isWindow 7 = .ok (.iload_n 1, 1) := by decide +kernel
theorem dX7_isWindow_8 : decode cX7_isWindow 8 = .ok (.invokestatic 151, 3) := by decide +kernel
theorem dX7_isWindow_11 : decode cX7_isWindow 11 = .ok (.ifCond .eq 31, 3) := by decide +kernel
theorem dX7_isWindow_14 : decode cX7_isWindow 14 = .ok (.iload_n 2, 1) := by decide +kernel
theorem dX7_isWindow_15 : decode cX7_isWindow 15 = .ok (.invokestatic 151, 3) := by decide +kernel
theorem dX7_isWindow_18 : decode cX7_isWindow 18 = .ok (.ifCond .eq 24, 3) := by decide +kernel
theorem dX7_isWindow_21 : decode cX7_isWindow 21 = .ok (.iload_n 3, 1) := by decide +kernel
theorem dX7_isWindow_22 : decode cX7_isWindow 22 = .ok (.invokestatic 151, 3) := by decide +kernel
theorem dX7_isWindow_25 : decode cX7_isWindow 25 = .ok (.ifCond .eq 17, 3) := by decide +kernel
theorem dX7_isWindow_28 : decode cX7_isWindow 28 = .ok (.iload_n 0, 1) := by decide +kernel
theorem dX7_isWindow_29 : decode cX7_isWindow 29 = .ok (.iload_n 2, 1) := by decide +kernel
theorem dX7_isWindow_30 : decode cX7_isWindow 30 = .ok (.if_icmp .gt 12, 3) := by decide +kernel
theorem dX7_isWindow_33 : decode cX7_isWindow 33 = .ok (.iload_n 1, 1) := by decide +kernel
theorem dX7_isWindow_34 : decode cX7_isWindow 34 = .ok (.iload_n 3, 1) := by decide +kernel
theorem dX7_isWindow_35 : decode cX7_isWindow 35 = .ok (.if_icmp .gt 7, 3) := by decide +kernel
theorem dX7_isWindow_38 : decode cX7_isWindow 38 = .ok (.iconst 1, 1) := by decide +kernel
theorem dX7_isWindow_39 : decode cX7_isWindow 39 = .ok (.goto 4, 3) := by decide +kernel
theorem dX7_isWindow_42 : decode cX7_isWindow 42 = .ok (.iconst 0, 1) := by decide +kernel
theorem dX7_isWindow_43 : decode cX7_isWindow 43 = .ok (.ireturn, 1) := by decide +kernel
theorem dX7_boxOfRank_0 : decode cX7_boxOfRank 0 = .ok (.iconst 0, 1) := by decide +kernel
theorem dX7_boxOfRank_1 : decode cX7_boxOfRank 1 = .ok (.istore 4, 2) := by decide +kernel
theorem dX7_boxOfRank_3 : decode cX7_boxOfRank 3 = .ok (.iload 4, 2) := by decide +kernel
theorem dX7_boxOfRank_5 : decode cX7_boxOfRank 5 = .ok (.bipush 31, 2) := by decide +kernel
theorem dX7_boxOfRank_7 : decode cX7_boxOfRank 7 = .ok (.if_icmp .ge 59, 3) := by decide +kernel
theorem dX7_boxOfRank_10 : decode cX7_boxOfRank 10 = .ok (.aload_n 0, 1) := by decide +kernel
theorem dX7_boxOfRank_11 : decode cX7_boxOfRank 11 = .ok (.getfield 12, 3) := by decide +kernel
theorem dX7_boxOfRank_14 : decode cX7_boxOfRank 14 = .ok (.iload 4, 2) := by decide +kernel
theorem dX7_boxOfRank_16 : decode cX7_boxOfRank 16 = .ok (.invokevirtual 70, 3) := by decide +kernel
theorem dX7_boxOfRank_19 : decode cX7_boxOfRank 19 = .ok (.ifCond .eq 27, 3) := by decide +kernel
theorem dX7_boxOfRank_22 : decode cX7_boxOfRank 22 = .ok (.aload_n 0, 1) := by decide +kernel
theorem dX7_boxOfRank_23 : decode cX7_boxOfRank 23 = .ok (.getfield 12, 3) := by decide +kernel
theorem dX7_boxOfRank_26 : decode cX7_boxOfRank 26 = .ok (.iload 4, 2) := by decide +kernel
theorem dX7_boxOfRank_28 : decode cX7_boxOfRank 28 = .ok (.iconst 0, 1) := by decide +kernel
theorem dX7_boxOfRank_29 : decode cX7_boxOfRank 29 = .ok (.invokevirtual 111, 3) := by decide +kernel
theorem dX7_boxOfRank_32 : decode cX7_boxOfRank 32 = .ok (.iload_n 1, 1) := by decide +kernel
theorem dX7_boxOfRank_33 : decode cX7_boxOfRank 33 = .ok (.iload_n 2, 1) := by decide +kernel
theorem dX7_boxOfRank_34 : decode cX7_boxOfRank 34 = .ok (.invokestatic 158, 3) := by decide +kernel
theorem dX7_boxOfRank_37 : decode cX7_boxOfRank 37 = .ok (.bipush 31, 2) := by decide +kernel
theorem dX7_boxOfRank_39 : decode cX7_boxOfRank 39 = .ok (.imul, 1) := by decide +kernel
theorem dX7_boxOfRank_40 : decode cX7_boxOfRank 40 = .ok (.iload 4, 2) := by decide +kernel
theorem dX7_boxOfRank_42 : decode cX7_boxOfRank 42 = .ok (.iadd, 1) := by decide +kernel
theorem dX7_boxOfRank_43 : decode cX7_boxOfRank 43 = .ok (.goto 4, 3) := by decide +kernel
theorem dX7_boxOfRank_46 : decode cX7_boxOfRank 46 = .ok (.iconst (-1), 1) := by decide +kernel
theorem dX7_boxOfRank_47 : decode cX7_boxOfRank 47 = .ok (.istore 5, 2) := by decide +kernel
theorem dX7_boxOfRank_49 : decode cX7_boxOfRank 49 = .ok (.aload_n 0, 1) := by decide +kernel
theorem dX7_boxOfRank_50 : decode cX7_boxOfRank 50 = .ok (.getfield 57, 3) := by decide +kernel
theorem dX7_boxOfRank_53 : decode cX7_boxOfRank 53 = .ok (.iload 4, 2) := by decide +kernel
theorem dX7_boxOfRank_55 : decode cX7_boxOfRank 55 = .ok (.iload 5, 2) := by decide +kernel
theorem dX7_boxOfRank_57 : decode cX7_boxOfRank 57 = .ok (.invokestatic 238, 3) := by decide +kernel
theorem dX7_boxOfRank_60 : decode cX7_boxOfRank 60 = .ok (.iinc 4 1, 3) := by decide +kernel
theorem dX7_boxOfRank_63 : decode cX7_boxOfRank 63 = .ok (.goto (-60), 3) := by decide +kernel
theorem dX7_boxOfRank_66 : decode cX7_boxOfRank 66 = .ok (.iconst 0, 1) := by decide +kernel
theorem dX7_boxOfRank_67 : decode cX7_boxOfRank 67 = .ok (.istore 4, 2) := by decide +kernel
theorem dX7_boxOfRank_69 : decode cX7_boxOfRank 69 = .ok (.iload 4, 2) := by decide +kernel
theorem dX7_boxOfRank_71 : decode cX7_boxOfRank 71 = .ok (.bipush 31, 2) := by decide +kernel
theorem dX7_boxOfRank_73 : decode cX7_boxOfRank 73 = .ok (.if_icmp .ge 39, 3) := by decide +kernel
theorem dX7_boxOfRank_76 : decode cX7_boxOfRank 76 = .ok (.aload_n 0, 1) := by decide +kernel
theorem dX7_boxOfRank_77 : decode cX7_boxOfRank 77 = .ok (.getfield 57, 3) := by decide +kernel
theorem dX7_boxOfRank_80 : decode cX7_boxOfRank 80 = .ok (.iload 4, 2) := by decide +kernel
theorem dX7_boxOfRank_82 : decode cX7_boxOfRank 82 = .ok (.invokestatic 244, 3) := by decide +kernel
theorem dX7_boxOfRank_85 : decode cX7_boxOfRank 85 = .ok (.istore 5, 2) := by decide +kernel
theorem dX7_boxOfRank_87 : decode cX7_boxOfRank 87 = .ok (.iload 5, 2) := by decide +kernel
theorem dX7_boxOfRank_89 : decode cX7_boxOfRank 89 = .ok (.iconst (-1), 1) := by decide +kernel
theorem dX7_boxOfRank_90 : decode cX7_boxOfRank 90 = .ok (.if_icmp .eq 16, 3) := by decide +kernel
theorem dX7_boxOfRank_93 : decode cX7_boxOfRank 93 = .ok (.aload_n 0, 1) := by decide +kernel
theorem dX7_boxOfRank_94 : decode cX7_boxOfRank 94 = .ok (.iload 5, 2) := by decide +kernel
theorem dX7_boxOfRank_96 : decode cX7_boxOfRank 96 = .ok (.invokevirtual 247, 3) := by decide +kernel
theorem dX7_boxOfRank_99 : decode cX7_boxOfRank 99 = .ok (.iload_n 3, 1) := by decide +kernel
theorem dX7_boxOfRank_100 : decode cX7_boxOfRank 100 = .ok (.if_icmp .ne 6, 3) := by decide +kernel
theorem dX7_boxOfRank_103 : decode cX7_boxOfRank 103 = .ok (.iload 4, 2) := by decide +kernel
theorem dX7_boxOfRank_105 : decode cX7_boxOfRank 105 = .ok (.ireturn, 1) := by decide +kernel
theorem dX7_boxOfRank_106 : decode cX7_boxOfRank 106 = .ok (.iinc 4 1, 3) := by decide +kernel
theorem dX7_boxOfRank_109 : decode cX7_boxOfRank 109 = .ok (.goto (-40), 3) := by decide +kernel
theorem dX7_boxOfRank_112 : decode cX7_boxOfRank 112 = .ok (.iconst (-1), 1) := by decide +kernel
theorem dX7_boxOfRank_113 : decode cX7_boxOfRank 113 = .ok (.ireturn, 1) := by decide +kernel
theorem dX7_ranksAhead_0 : decode cX7_ranksAhead 0 = .ok (.iconst 0, 1) := by decide +kernel
theorem dX7_ranksAhead_1 : decode cX7_ranksAhead 1 = .ok (.istore_n 2, 1) := by decide +kernel
theorem dX7_ranksAhead_2 : decode cX7_ranksAhead 2 = .ok (.aload_n 0, 1) := by decide +kernel
theorem dX7_ranksAhead_3 : decode cX7_ranksAhead 3 = .ok (.getfield 57, 3) := by decide +kernel
theorem dX7_ranksAhead_6 : decode cX7_ranksAhead 6 = .ok (.astore_n 3, 1) := by decide +kernel
theorem dX7_ranksAhead_7 : decode cX7_ranksAhead 7 = .ok (.aload_n 3, 1) := by decide +kernel
theorem dX7_ranksAhead_8 : decode cX7_ranksAhead 8 = .ok (.arraylength, 1) := by decide +kernel
theorem dX7_ranksAhead_9 : decode cX7_ranksAhead 9 = .ok (.istore 4, 2) := by decide +kernel
theorem dX7_ranksAhead_11 : decode cX7_ranksAhead 11 = .ok (.iconst 0, 1) := by decide +kernel
theorem dX7_ranksAhead_12 : decode cX7_ranksAhead 12 = .ok (.istore 5, 2) := by decide +kernel
theorem dX7_ranksAhead_14 : decode cX7_ranksAhead 14 = .ok (.iload 5, 2) := by decide +kernel
theorem dX7_ranksAhead_16 : decode cX7_ranksAhead 16 = .ok (.iload 4, 2) := by decide +kernel
theorem dX7_ranksAhead_18 : decode cX7_ranksAhead 18 = .ok (.if_icmp .ge 30, 3) := by decide +kernel
theorem dX7_ranksAhead_21 : decode cX7_ranksAhead 21 = .ok (.aload_n 3, 1) := by decide +kernel
theorem dX7_ranksAhead_22 : decode cX7_ranksAhead 22 = .ok (.iload 5, 2) := by decide +kernel
theorem dX7_ranksAhead_24 : decode cX7_ranksAhead 24 = .ok (.iaload, 1) := by decide +kernel
theorem dX7_ranksAhead_25 : decode cX7_ranksAhead 25 = .ok (.istore 6, 2) := by decide +kernel
theorem dX7_ranksAhead_27 : decode cX7_ranksAhead 27 = .ok (.iload 6, 2) := by decide +kernel
theorem dX7_ranksAhead_29 : decode cX7_ranksAhead 29 = .ok (.iconst (-1), 1) := by decide +kernel
theorem dX7_ranksAhead_30 : decode cX7_ranksAhead 30 = .ok (.if_icmp .eq 12, 3) := by decide +kernel
theorem dX7_ranksAhead_33 : decode cX7_ranksAhead 33 = .ok (.iload 6, 2) := by decide +kernel
theorem dX7_ranksAhead_35 : decode cX7_ranksAhead 35 = .ok (.iload_n 1, 1) := by decide +kernel
theorem dX7_ranksAhead_36 : decode cX7_ranksAhead 36 = .ok (.if_icmp .ge 6, 3) := by decide +kernel
theorem dX7_ranksAhead_39 : decode cX7_ranksAhead 39 = .ok (.iinc 2 1, 3) := by decide +kernel
theorem dX7_ranksAhead_42 : decode cX7_ranksAhead 42 = .ok (.iinc 5 1, 3) := by decide +kernel
theorem dX7_ranksAhead_45 : decode cX7_ranksAhead 45 = .ok (.goto (-31), 3) := by decide +kernel
theorem dX7_ranksAhead_48 : decode cX7_ranksAhead 48 = .ok (.iload_n 2, 1) := by decide +kernel
theorem dX7_ranksAhead_49 : decode cX7_ranksAhead 49 = .ok (.ireturn, 1) := by decide +kernel
theorem dJ6_bitCount_0f7a4_0 : decode cJ6_bitCount_0f7a4 0 = .ok (.iload_n 0, 1) := by decide +kernel
theorem dJ6_bitCount_0f7a4_1 : decode cJ6_bitCount_0f7a4 1 = .ok (.iload_n 0, 1) := by decide +kernel
theorem dJ6_bitCount_0f7a4_2 : decode cJ6_bitCount_0f7a4 2 = .ok (.iconst 1, 1) := by decide +kernel
theorem dJ6_bitCount_0f7a4_3 : decode cJ6_bitCount_0f7a4 3 = .ok (.iushr, 1) := by decide +kernel
theorem dJ6_bitCount_0f7a4_4 : decode cJ6_bitCount_0f7a4 4 = .ok (.ldc_w 265, 3) := by decide +kernel
theorem dJ6_bitCount_0f7a4_7 : decode cJ6_bitCount_0f7a4 7 = .ok (.iand, 1) := by decide +kernel
theorem dJ6_bitCount_0f7a4_8 : decode cJ6_bitCount_0f7a4 8 = .ok (.isub, 1) := by decide +kernel
theorem dJ6_bitCount_0f7a4_9 : decode cJ6_bitCount_0f7a4 9 = .ok (.istore_n 0, 1) := by decide +kernel
theorem dJ6_bitCount_0f7a4_10 : decode cJ6_bitCount_0f7a4 10 = .ok (.iload_n 0, 1) := by decide +kernel
theorem dJ6_bitCount_0f7a4_11 : decode cJ6_bitCount_0f7a4 11 = .ok (.ldc_w 266, 3) := by decide +kernel
theorem dJ6_bitCount_0f7a4_14 : decode cJ6_bitCount_0f7a4 14 = .ok (.iand, 1) := by decide +kernel
theorem dJ6_bitCount_0f7a4_15 : decode cJ6_bitCount_0f7a4 15 = .ok (.iload_n 0, 1) := by decide +kernel
theorem dJ6_bitCount_0f7a4_16 : decode cJ6_bitCount_0f7a4 16 = .ok (.iconst 2, 1) := by decide +kernel
theorem dJ6_bitCount_0f7a4_17 : decode cJ6_bitCount_0f7a4 17 = .ok (.iushr, 1) := by decide +kernel
theorem dJ6_bitCount_0f7a4_18 : decode cJ6_bitCount_0f7a4 18 = .ok (.ldc_w 266, 3) := by decide +kernel
theorem dJ6_bitCount_0f7a4_21 : decode cJ6_bitCount_0f7a4 21 = .ok (.iand, 1) := by decide +kernel
theorem dJ6_bitCount_0f7a4_22 : decode cJ6_bitCount_0f7a4 22 = .ok (.iadd, 1) := by decide +kernel
theorem dJ6_bitCount_0f7a4_23 : decode cJ6_bitCount_0f7a4 23 = .ok (.istore_n 0, 1) := by decide +kernel
theorem dJ6_bitCount_0f7a4_24 : decode cJ6_bitCount_0f7a4 24 = .ok (.iload_n 0, 1) := by decide +kernel
theorem dJ6_bitCount_0f7a4_25 : decode cJ6_bitCount_0f7a4 25 = .ok (.iload_n 0, 1) := by decide +kernel
theorem dJ6_bitCount_0f7a4_26 : decode cJ6_bitCount_0f7a4 26 = .ok (.iconst 4, 1) := by decide +kernel
theorem dJ6_bitCount_0f7a4_27 : decode cJ6_bitCount_0f7a4 27 = .ok (.iushr, 1) := by decide +kernel
theorem dJ6_bitCount_0f7a4_28 : decode cJ6_bitCount_0f7a4 28 = .ok (.iadd, 1) := by decide +kernel
theorem dJ6_bitCount_0f7a4_29 : decode cJ6_bitCount_0f7a4 29 = .ok (.ldc_w 267, 3) := by decide +kernel
theorem dJ6_bitCount_0f7a4_32 : decode cJ6_bitCount_0f7a4 32 = .ok (.iand, 1) := by decide +kernel
theorem dJ6_bitCount_0f7a4_33 : decode cJ6_bitCount_0f7a4 33 = .ok (.istore_n 0, 1) := by decide +kernel
theorem dJ6_bitCount_0f7a4_34 : decode cJ6_bitCount_0f7a4 34 = .ok (.iload_n 0, 1) := by decide +kernel
theorem dJ6_bitCount_0f7a4_35 : decode cJ6_bitCount_0f7a4 35 = .ok (.iload_n 0, 1) := by decide +kernel
theorem dJ6_bitCount_0f7a4_36 : decode cJ6_bitCount_0f7a4 36 = .ok (.bipush 8, 2) := by decide +kernel
theorem dJ6_bitCount_0f7a4_38 : decode cJ6_bitCount_0f7a4 38 = .ok (.iushr, 1) := by decide +kernel
theorem dJ6_bitCount_0f7a4_39 : decode cJ6_bitCount_0f7a4 39 = .ok (.iadd, 1) := by decide +kernel
theorem dJ6_bitCount_0f7a4_40 : decode cJ6_bitCount_0f7a4 40 = .ok (.istore_n 0, 1) := by decide +kernel
theorem dJ6_bitCount_0f7a4_41 : decode cJ6_bitCount_0f7a4 41 = .ok (.iload_n 0, 1) := by decide +kernel
theorem dJ6_bitCount_0f7a4_42 : decode cJ6_bitCount_0f7a4 42 = .ok (.iload_n 0, 1) := by decide +kernel
theorem dJ6_bitCount_0f7a4_43 : decode cJ6_bitCount_0f7a4 43 = .ok (.bipush 16, 2) := by decide +kernel
theorem dJ6_bitCount_0f7a4_45 : decode cJ6_bitCount_0f7a4 45 = .ok (.iushr, 1) := by decide +kernel
theorem dJ6_bitCount_0f7a4_46 : decode cJ6_bitCount_0f7a4 46 = .ok (.iadd, 1) := by decide +kernel
theorem dJ6_bitCount_0f7a4_47 : decode cJ6_bitCount_0f7a4 47 = .ok (.istore_n 0, 1) := by decide +kernel
theorem dJ6_bitCount_0f7a4_48 : decode cJ6_bitCount_0f7a4 48 = .ok (.iload_n 0, 1) := by decide +kernel
theorem dJ6_bitCount_0f7a4_49 : decode cJ6_bitCount_0f7a4 49 = .ok (.bipush 63, 2) := by decide +kernel
theorem dJ6_bitCount_0f7a4_51 : decode cJ6_bitCount_0f7a4 51 = .ok (.iand, 1) := by decide +kernel
theorem dJ6_bitCount_0f7a4_52 : decode cJ6_bitCount_0f7a4 52 = .ok (.ireturn, 1) := by decide +kernel
theorem dJ9_max_7cf53_0 : decode cJ9_max_7cf53 0 = .ok (.iload_n 0, 1) := by decide +kernel
theorem dJ9_max_7cf53_1 : decode cJ9_max_7cf53 1 = .ok (.iload_n 1, 1) := by decide +kernel
theorem dJ9_max_7cf53_2 : decode cJ9_max_7cf53 2 = .ok (.if_icmp .lt 7, 3) := by decide +kernel
theorem dJ9_max_7cf53_5 : decode cJ9_max_7cf53 5 = .ok (.iload_n 0, 1) := by decide +kernel
theorem dJ9_max_7cf53_6 : decode cJ9_max_7cf53 6 = .ok (.goto 4, 3) := by decide +kernel
theorem dJ9_max_7cf53_9 : decode cJ9_max_7cf53 9 = .ok (.iload_n 1, 1) := by decide +kernel
theorem dJ9_max_7cf53_10 : decode cJ9_max_7cf53 10 = .ok (.ireturn, 1) := by decide +kernel
theorem dJ9_min_7cf53_0 : decode cJ9_min_7cf53 0 = .ok (.iload_n 0, 1) := by decide +kernel
theorem dJ9_min_7cf53_1 : decode cJ9_min_7cf53 1 = .ok (.iload_n 1, 1) := by decide +kernel
theorem dJ9_min_7cf53_2 : decode cJ9_min_7cf53 2 = .ok (.if_icmp .gt 7, 3) := by decide +kernel
theorem dJ9_min_7cf53_5 : decode cJ9_min_7cf53 5 = .ok (.iload_n 0, 1) := by decide +kernel
theorem dJ9_min_7cf53_6 : decode cJ9_min_7cf53 6 = .ok (.goto 4, 3) := by decide +kernel
theorem dJ9_min_7cf53_9 : decode cJ9_min_7cf53 9 = .ok (.iload_n 1, 1) := by decide +kernel
theorem dJ9_min_7cf53_10 : decode cJ9_min_7cf53 10 = .ok (.ireturn, 1) := by decide +kernel
theorem dJ7_fill_53178_0 : decode cJ7_fill_53178 0 = .ok (.iconst 0, 1) := by decide +kernel
theorem dJ7_fill_53178_1 : decode cJ7_fill_53178 1 = .ok (.istore_n 2, 1) := by decide +kernel
theorem dJ7_fill_53178_2 : decode cJ7_fill_53178 2 = .ok (.aload_n 0, 1) := by decide +kernel
theorem dJ7_fill_53178_3 : decode cJ7_fill_53178 3 = .ok (.arraylength, 1) := by decide +kernel
theorem dJ7_fill_53178_4 : decode cJ7_fill_53178 4 = .ok (.istore_n 3, 1) := by decide +kernel
theorem dJ7_fill_53178_5 : decode cJ7_fill_53178 5 = .ok (.iload_n 2, 1) := by decide +kernel
theorem dJ7_fill_53178_6 : decode cJ7_fill_53178 6 = .ok (.iload_n 3, 1) := by decide +kernel
theorem dJ7_fill_53178_7 : decode cJ7_fill_53178 7 = .ok (.if_icmp .ge 13, 3) := by decide +kernel
theorem dJ7_fill_53178_10 : decode cJ7_fill_53178 10 = .ok (.aload_n 0, 1) := by decide +kernel
theorem dJ7_fill_53178_11 : decode cJ7_fill_53178 11 = .ok (.iload_n 2, 1) := by decide +kernel
theorem dJ7_fill_53178_12 : decode cJ7_fill_53178 12 = .ok (.iload_n 1, 1) := by decide +kernel
theorem dJ7_fill_53178_13 : decode cJ7_fill_53178 13 = .ok (.iastore, 1) := by decide +kernel
theorem dJ7_fill_53178_14 : decode cJ7_fill_53178 14 = .ok (.iinc 2 1, 3) := by decide +kernel
theorem dJ7_fill_53178_17 : decode cJ7_fill_53178 17 = .ok (.goto (-12), 3) := by decide +kernel
theorem dJ7_fill_53178_20 : decode cJ7_fill_53178 20 = .ok (.return_, 1) := by decide +kernel
