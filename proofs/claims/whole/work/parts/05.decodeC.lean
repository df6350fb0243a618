theorem dX8_init_0 : decode cX8_init 0 = .ok (.aload_n 0, 1) := by decide +kernel
theorem dX8_init_1 : decode cX8_init 1 = .ok (.invokespecial 1, 3) := by decide +kernel
theorem dX8_init_4 : decode cX8_init 4 = .ok (.aload_n 0, 1) := by decide +kernel
theorem dX8_init_5 : decode cX8_init 5 = .ok (.sipush 439, 3) := by decide +kernel
theorem dX8_init_8 : decode cX8_init 8 = .ok (.newarray .int, 2) := by decide +kernel
theorem dX8_init_10 : decode cX8_init 10 = .ok (.putfield 7, 3) := by decide +kernel
theorem dX8_init_13 : decode cX8_init 13 = .ok (.aload_n 0, 1) := by decide +kernel
theorem dX8_init_14 : decode cX8_init 14 = .ok (.sipush 439, 3) := by decide +kernel
theorem dX8_init_17 : decode cX8_init 17 = .ok (.newarray .int, 2) := by decide +kernel
theorem dX8_init_19 : decode cX8_init 19 = .ok (.putfield 13, 3) := by decide +kernel
theorem dX8_init_22 : decode cX8_init 22 = .ok (.aload_n 0, 1) := by decide +kernel
theorem dX8_init_23 : decode cX8_init 23 = .ok (.sipush 1756, 3) := by decide +kernel
theorem dX8_init_26 : decode cX8_init 26 = .ok (.newarray .int, 2) := by decide +kernel
theorem dX8_init_28 : decode cX8_init 28 = .ok (.putfield 16, 3) := by decide +kernel
theorem dX8_init_31 : decode cX8_init 31 = .ok (.aload_n 0, 1) := by decide +kernel
theorem dX8_init_32 : decode cX8_init 32 = .ok (.bipush 60, 2) := by decide +kernel
theorem dX8_init_34 : decode cX8_init 34 = .ok (.newarray .int, 2) := by decide +kernel
theorem dX8_init_36 : decode cX8_init 36 = .ok (.putfield 19, 3) := by decide +kernel
theorem dX8_init_39 : decode cX8_init 39 = .ok (.aload_n 0, 1) := by decide +kernel
theorem dX8_init_40 : decode cX8_init 40 = .ok (.sipush 160, 3) := by decide +kernel
theorem dX8_init_43 : decode cX8_init 43 = .ok (.newarray .int, 2) := by decide +kernel
theorem dX8_init_45 : decode cX8_init 45 = .ok (.putfield 22, 3) := by decide +kernel
theorem dX8_init_48 : decode cX8_init 48 = .ok (.aload_n 0, 1) := by decide +kernel
theorem dX8_init_49 : decode cX8_init 49 = .ok (.bipush 40, 2) := by decide +kernel
theorem dX8_init_51 : decode cX8_init 51 = .ok (.newarray .int, 2) := by decide +kernel
theorem dX8_init_53 : decode cX8_init 53 = .ok (.putfield 25, 3) := by decide +kernel
theorem dX8_init_56 : decode cX8_init 56 = .ok (.aload_n 0, 1) := by decide +kernel
theorem dX8_init_57 : decode cX8_init 57 = .ok (.iconst 4, 1) := by decide +kernel
theorem dX8_init_58 : decode cX8_init 58 = .ok (.newarray .int, 2) := by decide +kernel
theorem dX8_init_60 : decode cX8_init 60 = .ok (.putfield 28, 3) := by decide +kernel
theorem dX8_init_63 : decode cX8_init 63 = .ok (.aload_n 0, 1) := by decide +kernel
theorem dX8_init_64 : decode cX8_init 64 = .ok (.iconst 4, 1) := by decide +kernel
theorem dX8_init_65 : decode cX8_init 65 = .ok (.newarray .int, 2) := by decide +kernel
theorem dX8_init_67 : decode cX8_init 67 = .ok (.putfield 31, 3) := by decide +kernel
theorem dX8_init_70 : decode cX8_init 70 = .ok (.aload_n 0, 1) := by decide +kernel
theorem dX8_init_71 : decode cX8_init 71 = .ok (.bipush 24, 2) := by decide +kernel
theorem dX8_init_73 : decode cX8_init 73 = .ok (.newarray .int, 2) := by decide +kernel
theorem dX8_init_75 : decode cX8_init 75 = .ok (.putfield 34, 3) := by decide +kernel
theorem dX8_init_78 : decode cX8_init 78 = .ok (.aload_n 0, 1) := by decide +kernel
theorem dX8_init_79 : decode cX8_init 79 = .ok (.bipush 24, 2) := by decide +kernel
theorem dX8_init_81 : decode cX8_init 81 = .ok (.newarray .int, 2) := by decide +kernel
theorem dX8_init_83 : decode cX8_init 83 = .ok (.putfield 37, 3) := by decide +kernel
theorem dX8_init_86 : decode cX8_init 86 = .ok (.aload_n 0, 1) := by decide +kernel
theorem dX8_init_87 : decode cX8_init 87 = .ok (.bipush 48, 2) := by decide +kernel
theorem dX8_init_89 : decode cX8_init 89 = .ok (.newarray .int, 2) := by decide +kernel
theorem dX8_init_91 : decode cX8_init 91 = .ok (.putfield 40, 3) := by decide +kernel
theorem dX8_init_94 : decode cX8_init 94 = .ok (.aload_n 0, 1) := by decide +kernel
theorem dX8_init_95 : decode cX8_init 95 = .ok (.bipush 48, 2) := by decide +kernel
theorem dX8_init_97 : decode cX8_init 97 = .ok (.newarray .int, 2) := by decide +kernel
theorem dX8_init_99 : decode cX8_init 99 = .ok (.putfield 43, 3) := by decide +kernel
theorem dX8_init_102 : decode cX8_init 102 = .ok (.aload_n 0, 1) := by decide +kernel
theorem dX8_init_103 : decode cX8_init 103 = .ok (.bipush 48, 2) := by decide +kernel
theorem dX8_init_105 : decode cX8_init 105 = .ok (.newarray .int, 2) := by decide +kernel
theorem dX8_init_107 : decode cX8_init 107 = .ok (.putfield 46, 3) := by decide +kernel
theorem dX8_init_110 : decode cX8_init 110 = .ok (.aload_n 0, 1) := by decide +kernel
theorem dX8_init_111 : decode cX8_init 111 = .ok (.bipush 48, 2) := by decide +kernel
theorem dX8_init_113 : decode cX8_init 113 = .ok (.newarray .int, 2) := by decide +kernel
theorem dX8_init_115 : decode cX8_init 115 = .ok (.putfield 49, 3) := by decide +kernel
theorem dX8_init_118 : decode cX8_init 118 = .ok (.aload_n 0, 1) := by decide +kernel
theorem dX8_init_119 : decode cX8_init 119 = .ok (.iconst 5, 1) := by decide +kernel
theorem dX8_init_120 : decode cX8_init 120 = .ok (.newarray .int, 2) := by decide +kernel
theorem dX8_init_122 : decode cX8_init 122 = .ok (.putfield 52, 3) := by decide +kernel
theorem dX8_init_125 : decode cX8_init 125 = .ok (.aload_n 0, 1) := by decide +kernel
theorem dX8_init_126 : decode cX8_init 126 = .ok (.iconst 5, 1) := by decide +kernel
theorem dX8_init_127 : decode cX8_init 127 = .ok (.newarray .int, 2) := by decide +kernel
theorem dX8_init_129 : decode cX8_init 129 = .ok (.putfield 55, 3) := by decide +kernel
theorem dX8_init_132 : decode cX8_init 132 = .ok (.aload_n 0, 1) := by decide +kernel
theorem dX8_init_133 : decode cX8_init 133 = .ok (.bipush 40, 2) := by decide +kernel
theorem dX8_init_135 : decode cX8_init 135 = .ok (.newarray .int, 2) := by decide +kernel
theorem dX8_init_137 : decode cX8_init 137 = .ok (.putfield 58, 3) := by decide +kernel
theorem dX8_init_140 : decode cX8_init 140 = .ok (.aload_n 0, 1) := by decide +kernel
theorem dX8_init_141 : decode cX8_init 141 = .ok (.bipush 40, 2) := by decide +kernel
theorem dX8_init_143 : decode cX8_init 143 = .ok (.newarray .int, 2) := by decide +kernel
theorem dX8_init_145 : decode cX8_init 145 = .ok (.putfield 61, 3) := by decide +kernel
theorem dX8_init_148 : decode cX8_init 148 = .ok (.aload_n 0, 1) := by decide +kernel
theorem dX8_init_149 : decode cX8_init 149 = .ok (.bipush 40, 2) := by decide +kernel
theorem dX8_init_151 : decode cX8_init 151 = .ok (.newarray .int, 2) := by decide +kernel
theorem dX8_init_153 : decode cX8_init 153 = .ok (.putfield 64, 3) := by decide +kernel
theorem dX8_init_156 : decode cX8_init 156 = .ok (.aload_n 0, 1) := by decide +kernel
theorem dX8_init_157 : decode cX8_init 157 = .ok (.bipush 40, 2) := by decide +kernel
theorem dX8_init_159 : decode cX8_init 159 = .ok (.newarray .int, 2) := by decide +kernel
theorem dX8_init_161 : decode cX8_init 161 = .ok (.putfield 67, 3) := by decide +kernel
theorem dX8_init_164 : decode cX8_init 164 = .ok (.aload_n 0, 1) := by decide +kernel
theorem dX8_init_165 : decode cX8_init 165 = .ok (.iconst 5, 1) := by decide +kernel
theorem dX8_init_166 : decode cX8_init 166 = .ok (.newarray .int, 2) := by decide +kernel
theorem dX8_init_168 : decode cX8_init 168 = .ok (.putfield 70, 3) := by decide +kernel
theorem dX8_init_171 : decode cX8_init 171 = .ok (.iconst 1, 1) := by decide +kernel
theorem dX8_init_172 : decode cX8_init 172 = .ok (.istore_n 1, 1) := by decide +kernel
theorem dX8_init_173 : decode cX8_init 173 = .ok (.iload_n 1, 1) := by decide +kernel
theorem dX8_init_174 : decode cX8_init 174 = .ok (.bipush 40, 2) := by decide +kernel
theorem dX8_init_176 : decode cX8_init 176 = .ok (.if_icmp .ge 20, 3) := by decide +kernel
theorem dX8_init_179 : decode cX8_init 179 = .ok (.aload_n 0, 1) := by decide +kernel
theorem dX8_init_180 : decode cX8_init 180 = .ok (.getfield 7, 3) := by decide +kernel
theorem dX8_init_183 : decode cX8_init 183 = .ok (.sipush 159, 3) := by decide +kernel
theorem dX8_init_186 : decode cX8_init 186 = .ok (.iload_n 1, 1) := by decide +kernel
theorem dX8_init_187 : decode cX8_init 187 = .ok (.iadd, 1) := by decide +kernel
theorem dX8_init_188 : decode cX8_init 188 = .ok (.iconst (-1), 1) := by decide +kernel
theorem dX8_init_189 : decode cX8_init 189 = .ok (.iastore, 1) := by decide +kernel
theorem dX8_init_190 : decode cX8_init 190 = .ok (.iinc 1 1, 3) := by decide +kernel
theorem dX8_init_193 : decode cX8_init 193 = .ok (.goto (-20), 3) := by decide +kernel
theorem dX8_init_196 : decode cX8_init 196 = .ok (.return_, 1) := by decide +kernel
theorem dX8_in_0 : decode cX8_in 0 = .ok (.iload_n 0, 1) := by decide +kernel
theorem dX8_in_1 : decode cX8_in 1 = .ok (.iload_n 1, 1) := by decide +kernel
theorem dX8_in_2 : decode cX8_in 2 = .ok (.if_icmp .lt 12, 3) := by decide +kernel
theorem dX8_in_5 : decode cX8_in 5 = .ok (.iload_n 0, 1) := by decide +kernel
theorem dX8_in_6 : decode cX8_in 6 = .ok (.iload_n 2, 1) := by decide +kernel
theorem dX8_in_7 : decode cX8_in 7 = .ok (.if_icmp .gt 7, 3) := by decide +kernel
theorem dX8_in_10 : decode cX8_in 10 = .ok (.iconst 1, 1) := by decide +kernel
theorem dX8_in_11 : decode cX8_in 11 = .ok (.goto 4, 3) := by decide +kernel
theorem dX8_in_14 : decode cX8_in 14 = .ok (.iconst 0, 1) := by decide +kernel
theorem dX8_in_15 : decode cX8_in 15 = .ok (.ireturn, 1) := by decide +kernel
theorem dX8_least_0 : decode cX8_least 0 = .ok (.iload_n 0, 1) := by decide +kernel
theorem dX8_least_1 : decode cX8_least 1 = .ok (.iload_n 1, 1) := by decide +kernel
theorem dX8_least_2 : decode cX8_least 2 = .ok (.if_icmp .ge 7, 3) := by decide +kernel
theorem dX8_least_5 : decode cX8_least 5 = .ok (.iload_n 0, 1) := by decide +kernel
theorem dX8_least_6 : decode cX8_least 6 = .ok (.goto 4, 3) := by decide +kernel
theorem dX8_least_9 : decode cX8_least 9 = .ok (.iload_n 1, 1) := by decide +kernel
theorem dX8_least_10 : decode cX8_least 10 = .ok (.ireturn, 1) := by decide +kernel
theorem dX8_most_0 : decode cX8_most 0 = .ok (.iload_n 0, 1) := by decide +kernel
theorem dX8_most_1 : decode cX8_most 1 = .ok (.iload_n 1, 1) := by decide +kernel
theorem dX8_most_2 : decode cX8_most 2 = .ok (.if_icmp .le 7, 3) := by decide +kernel
theorem dX8_most_5 : decode cX8_most 5 = .ok (.iload_n 0, 1) := by decide +kernel
theorem dX8_most_6 : decode cX8_most 6 = .ok (.goto 4, 3) := by decide +kernel
theorem dX8_most_9 : decode cX8_most 9 = .ok (.iload_n 1, 1) := by decide +kernel
theorem dX8_most_10 : decode cX8_most 10 = .ok (.ireturn, 1) := by decide +kernel
theorem dX8_copy_0 : decode cX8_copy 0 = .ok (.iconst 0, 1) := by decide +kernel
theorem dX8_copy_1 : decode cX8_copy 1 = .ok (.istore_n 1, 1) := by decide +kernel
theorem dX8_copy_2 : decode cX8_copy 2 = .ok (.iload_n 1, 1) := by decide +kernel
theorem dX8_copy_3 : decode cX8_copy 3 = .ok (.sipush 439, 3) := by decide +kernel
theorem dX8_copy_6 : decode cX8_copy 6 = .ok (.if_icmp .ge 21, 3) := by decide +kernel
theorem dX8_copy_9 : decode cX8_copy 9 = .ok (.aload_n 0, 1) := by decide +kernel
theorem dX8_copy_10 : decode cX8_copy 10 = .ok (.getfield 13, 3) := by decide +kernel
theorem dX8_copy_13 : decode cX8_copy 13 = .ok (.iload_n 1, 1) := by decide +kernel
theorem dX8_copy_14 : decode cX8_copy 14 = .ok (.aload_n 0, 1) := by decide +kernel
theorem dX8_copy_15 : decode cX8_copy 15 = .ok (.getfield 7, 3) := by decide +kernel
theorem dX8_copy_18 : decode cX8_copy 18 = .ok (.iload_n 1, 1) := by decide +kernel
theorem dX8_copy_19 : decode cX8_copy 19 = .ok (.iaload, 1) := by decide +kernel
theorem dX8_copy_20 : decode cX8_copy 20 = .ok (.iastore, 1) := by decide +kernel
theorem dX8_copy_21 : decode cX8_copy 21 = .ok (.iinc 1 1, 3) := by decide +kernel
theorem dX8_copy_24 : decode cX8_copy 24 = .ok (.goto (-22), 3) := by decide +kernel
theorem dX8_copy_27 : decode cX8_copy 27 = .ok (.return_, 1) := by decide +kernel
theorem dX8_back_0 : decode cX8_back 0 = .ok (.iconst 0, 1) := by decide +kernel
theorem dX8_back_1 : decode cX8_back 1 = .ok (.istore_n 1, 1) := by decide +kernel
theorem dX8_back_2 : decode cX8_back 2 = .ok (.iload_n 1, 1) := by decide +kernel
theorem dX8_back_3 : decode cX8_back 3 = .ok (.sipush 439, 3) := by decide +kernel
theorem dX8_back_6 : decode cX8_back 6 = .ok (.if_icmp .ge 21, 3) := by decide +kernel
theorem dX8_back_9 : decode cX8_back 9 = .ok (.aload_n 0, 1) := by decide +kernel
theorem dX8_back_10 : decode cX8_back 10 = .ok (.getfield 7, 3) := by decide +kernel
theorem dX8_back_13 : decode cX8_back 13 = .ok (.iload_n 1, 1) := by decide +kernel
theorem dX8_back_14 : decode cX8_back 14 = .ok (.aload_n 0, 1) := by decide +kernel
theorem dX8_back_15 : decode cX8_back 15 = .ok (.getfield 13, 3) := by decide +kernel
theorem dX8_back_18 : decode cX8_back 18 = .ok (.iload_n 1, 1) := by decide +kernel
theorem dX8_back_19 : decode cX8_back 19 = .ok (.iaload, 1) := by decide +kernel
theorem dX8_back_20 : decode cX8_back 20 = .ok (.iastore, 1) := by decide +kernel
theorem dX8_back_21 : decode cX8_back 21 = .ok (.iinc 1 1, 3) := by decide +kernel
theorem dX8_back_24 : decode cX8_back 24 = .ok (.goto (-22), 3) := by decide +kernel
theorem dX8_back_27 : decode cX8_back 27 = .ok (.return_, 1) := by decide +kernel
theorem dX8_record_0 : decode cX8_record 0 = .ok (.iconst 0, 1) := by decide +kernel
theorem dX8_record_1 : decode cX8_record 1 = .ok (.istore_n 1, 1) := by decide +kernel
theorem dX8_record_2 : decode cX8_record 2 = .ok (.iload_n 1, 1) := by decide +kernel
theorem dX8_record_3 : decode cX8_record 3 = .ok (.sipush 439, 3) := by decide +kernel
theorem dX8_record_6 : decode cX8_record 6 = .ok (.if_icmp .ge 30, 3) := by decide +kernel
theorem dX8_record_9 : decode cX8_record 9 = .ok (.aload_n 0, 1) := by decide +kernel
theorem dX8_record_10 : decode cX8_record 10 = .ok (.getfield 16, 3) := by decide +kernel
theorem dX8_record_13 : decode cX8_record 13 = .ok (.sipush 439, 3) := by decide +kernel
theorem dX8_record_16 : decode cX8_record 16 = .ok (.aload_n 0, 1) := by decide +kernel
theorem dX8_record_17 : decode cX8_record 17 = .ok (.getfield 73, 3) := by decide +kernel
theorem dX8_record_20 : decode cX8_record 20 = .ok (.imul, 1) := by decide +kernel
theorem dX8_record_21 : decode cX8_record 21 = .ok (.iload_n 1, 1) := by decide +kernel
theorem dX8_record_22 : decode cX8_record 22 = .ok (.iadd, 1) := by decide +kernel
theorem dX8_record_23 : decode cX8_record 23 = .ok (.aload_n 0, 1) := by decide +kernel
theorem dX8_record_24 : decode cX8_record 24 = .ok (.getfield 13, 3) := by decide +kernel
theorem dX8_record_27 : decode cX8_record 27 = .ok (.iload_n 1, 1) := by decide +kernel
theorem dX8_record_28 : decode cX8_record 28 = .ok (.iaload, 1) := by decide +kernel
theorem dX8_record_29 : decode cX8_record 29 = .ok (.iastore, 1) := by decide +kernel
theorem dX8_record_30 : decode cX8_record 30 = .ok (.iinc 1 1, 3) := by decide +kernel
theorem dX8_record_33 : decode cX8_record 33 = .ok (.goto (-31), 3) := by decide +kernel
theorem dX8_record_36 : decode cX8_record 36 = .ok (.aload_n 0, 1) := by decide +kernel
theorem dX8_record_37 : decode cX8_record 37 = .ok (.aload_n 0, 1) := by decide +kernel
theorem dX8_record_38 : decode cX8_record 38 = .ok (.getfield 73, 3) := by decide +kernel
theorem dX8_record_41 : decode cX8_record 41 = .ok (.iconst 1, 1) := by decide +kernel
theorem dX8_record_42 : decode cX8_record 42 = .ok (.iadd, 1) := by decide +kernel
theorem dX8_record_43 : decode cX8_record 43 = .ok (.iconst 4, 1) := by decide +kernel
theorem dX8_record_44 : decode cX8_record 44 = .ok (.irem, 1) := by decide +kernel
theorem dX8_record_45 : decode cX8_record 45 = .ok (.putfield 73, 3) := by decide +kernel
theorem dX8_record_48 : decode cX8_record 48 = .ok (.aload_n 0, 1) := by decide +kernel
theorem dX8_record_49 : decode cX8_record 49 = .ok (.aload_n 0, 1) := by decide +kernel
theorem dX8_record_50 : decode cX8_record 50 = .ok (.getfield 77, 3) := by decide +kernel
theorem dX8_record_53 : decode cX8_record 53 = .ok (.iconst 4, 1) := by decide +kernel
theorem dX8_record_54 : decode cX8_record 54 = .ok (.if_icmp .ge 12, 3) := by decide +kernel
theorem dX8_record_57 : decode cX8_record 57 = .ok (.aload_n 0, 1) := by decide +kernel
theorem dX8_record_58 : decode cX8_record 58 = .ok (.getfield 77, 3) := by decide +kernel
theorem dX8_record_61 : decode cX8_record 61 = .ok (.iconst 1, 1) := by decide +kernel
theorem dX8_record_62 : decode cX8_record 62 = .ok (.iadd, 1) := by decide +kernel
theorem dX8_record_63 : decode cX8_record 63 = .ok (.goto 4, 3) := by decide +kernel
theorem dX8_record_66 : decode cX8_record 66 = .ok (.iconst 4, 1) := by decide +kernel
theorem dX8_record_67 : decode cX8_record 67 = .ok (.putfield 77, 3) := by decide +kernel
theorem dX8_record_70 : decode cX8_record 70 = .ok (.return_, 1) := by decide +kernel
theorem dX8_undo_0 : decode cX8_undo 0 = .ok (.aload_n 0, 1) := by decide +kernel
theorem dX8_undo_1 : decode cX8_undo 1 = .ok (.getfield 77, 3) := by decide +kernel
theorem dX8_undo_4 : decode cX8_undo 4 = .ok (.ifCond .ne 6, 3) := by decide +kernel
theorem dX8_undo_7 : decode cX8_undo 7 = .ok (.ldc 80, 2) := by decide +kernel
theorem dX8_undo_9 : decode cX8_undo 9 = .ok (.ireturn, 1) := by decide +kernel
theorem dX8_undo_10 : decode cX8_undo 10 = .ok (.aload_n 0, 1) := by decide +kernel
theorem dX8_undo_11 : decode cX8_undo 11 = .ok (.aload_n 0, 1) := by decide +kernel
theorem dX8_undo_12 : decode cX8_undo 12 = .ok (.getfield 73, 3) := by decide +kernel
theorem dX8_undo_15 : decode cX8_undo 15 = .ok (.iconst 4, 1) := by decide +kernel
theorem dX8_undo_16 : decode cX8_undo 16 = .ok (.iadd, 1) := by decide +kernel
theorem dX8_undo_17 : decode cX8_undo 17 = .ok (.iconst 1, 1) := by decide +kernel
theorem dX8_undo_18 : decode cX8_undo 18 = .ok (.isub, 1) := by decide +kernel
theorem dX8_undo_19 : decode cX8_undo 19 = .ok (.iconst 4, 1) := by decide +kernel
theorem dX8_undo_20 : decode cX8_undo 20 = .ok (.irem, 1) := by decide +kernel
theorem dX8_undo_21 : decode cX8_undo 21 = .ok (.putfield 73, 3) := by decide +kernel
theorem dX8_undo_24 : decode cX8_undo 24 = .ok (.aload_n 0, 1) := by decide +kernel
theorem dX8_undo_25 : decode cX8_undo 25 = .ok (.dup, 1) := by decide +kernel
theorem dX8_undo_26 : decode cX8_undo 26 = .ok (.getfield 77, 3) := by decide +kernel
theorem dX8_undo_29 : decode cX8_undo 29 = .ok (.iconst 1, 1) := by decide +kernel
theorem dX8_undo_30 : decode cX8_undo 30 = .ok (.isub, 1) := by decide +kernel
theorem dX8_undo_31 : decode cX8_undo 31 = .ok (.putfield 77, 3) := by decide +kernel
theorem dX8_undo_34 : decode cX8_undo 34 = .ok (.iconst 0, 1) := by decide +kernel
theorem dX8_undo_35 : decode cX8_undo 35 = .ok (.istore_n 1, 1) := by decide +kernel
theorem dX8_undo_36 : decode cX8_undo 36 = .ok (.iload_n 1, 1) := by decide +kernel
theorem dX8_undo_37 : decode cX8_undo 37 = .ok (.sipush 439, 3) := by decide +kernel
theorem dX8_undo_40 : decode cX8_undo 40 = .ok (.if_icmp .ge 30, 3) := by decide +kernel
theorem dX8_undo_43 : decode cX8_undo 43 = .ok (.aload_n 0, 1) := by decide +kernel
theorem dX8_undo_44 : decode cX8_undo 44 = .ok (.getfield 7, 3) := by decide +kernel
theorem dX8_undo_47 : decode cX8_undo 47 = .ok (.iload_n 1, 1) := by decide +kernel
theorem dX8_undo_48 : decode cX8_undo 48 = .ok (.aload_n 0, 1) := by decide +kernel
theorem dX8_undo_49 : decode cX8_undo 49 = .ok (.getfield 16, 3) := by decide +kernel
theorem dX8_undo_52 : decode cX8_undo 52 = .ok (.sipush 439, 3) := by decide +kernel
theorem dX8_undo_55 : decode cX8_undo 55 = .ok (.aload_n 0, 1) := by decide +kernel
theorem dX8_undo_56 : decode cX8_undo 56 = .ok (.getfield 73, 3) := by decide +kernel
theorem dX8_undo_59 : decode cX8_undo 59 = .ok (.imul, 1) := by decide +kernel
theorem dX8_undo_60 : decode cX8_undo 60 = .ok (.iload_n 1, 1) := by decide +kernel
theorem dX8_undo_61 : decode cX8_undo 61 = .ok (.iadd, 1) := by decide +kernel
theorem dX8_undo_62 : decode cX8_undo 62 = .ok (.iaload, 1) := by decide +kernel
theorem dX8_undo_63 : decode cX8_undo 63 = .ok (.iastore, 1) := by decide +kernel
theorem dX8_undo_64 : decode cX8_undo 64 = .ok (.iinc 1 1, 3) := by decide +kernel
theorem dX8_undo_67 : decode cX8_undo 67 = .ok (.goto (-31), 3) := by decide +kernel
theorem dX8_undo_70 : decode cX8_undo 70 = .ok (.aload_n 0, 1) := by decide +kernel
theorem dX8_undo_71 : decode cX8_undo 71 = .ok (.getfield 77, 3) := by decide +kernel
theorem dX8_undo_74 : decode cX8_undo 74 = .ok (.ireturn, 1) := by decide +kernel
theorem dX8_levelOf_0 : decode cX8_levelOf 0 = .ok (.aload_n 0, 1) := by decide +kernel
theorem dX8_levelOf_1 : decode cX8_levelOf 1 = .ok (.getfield 7, 3) := by decide +kernel
theorem dX8_levelOf_4 : decode cX8_levelOf 4 = .ok (.sipush 159, 3) := by decide +kernel
theorem dX8_levelOf_7 : decode cX8_levelOf 7 = .ok (.iload_n 1, 1) := by decide +kernel
theorem dX8_levelOf_8 : decode cX8_levelOf 8 = .ok (.iadd, 1) := by decide +kernel
theorem dX8_levelOf_9 : decode cX8_levelOf 9 = .ok (.iaload, 1) := by decide +kernel
theorem dX8_levelOf_10 : decode cX8_levelOf 10 = .ok (.ireturn, 1) := by decide +kernel
theorem dX8_manyOf_0 : decode cX8_manyOf 0 = .ok (.aload_n 0, 1) := by decide +kernel
theorem dX8_manyOf_1 : decode cX8_manyOf 1 = .ok (.getfield 7, 3) := by decide +kernel
theorem dX8_manyOf_4 : decode cX8_manyOf 4 = .ok (.sipush 199, 3) := by decide +kernel
theorem dX8_manyOf_7 : decode cX8_manyOf 7 = .ok (.iload_n 1, 1) := by decide +kernel
theorem dX8_manyOf_8 : decode cX8_manyOf 8 = .ok (.iadd, 1) := by decide +kernel
theorem dX8_manyOf_9 : decode cX8_manyOf 9 = .ok (.iaload, 1) := by decide +kernel
theorem dX8_manyOf_10 : decode cX8_manyOf 10 = .ok (.ireturn, 1) := by decide +kernel
theorem dX8_thing_0 : decode cX8_thing 0 = .ok (.aload_n 0, 1) := by decide +kernel
theorem dX8_thing_1 : decode cX8_thing 1 = .ok (.getfield 7, 3) := by decide +kernel
theorem dX8_thing_4 : decode cX8_thing 4 = .ok (.sipush 239, 3) := by decide +kernel
theorem dX8_thing_7 : decode cX8_thing 7 = .ok (.iconst 5, 1) := by decide +kernel
theorem dX8_thing_8 : decode cX8_thing 8 = .ok (.iload_n 1, 1) := by decide +kernel
theorem dX8_thing_9 : decode cX8_thing 9 = .ok (.imul, 1) := by decide +kernel
theorem dX8_thing_10 : decode cX8_thing 10 = .ok (.iadd, 1) := by decide +kernel
theorem dX8_thing_11 : decode cX8_thing 11 = .ok (.iload_n 2, 1) := by decide +kernel
theorem dX8_thing_12 : decode cX8_thing 12 = .ok (.iadd, 1) := by decide +kernel
theorem dX8_thing_13 : decode cX8_thing 13 = .ok (.iaload, 1) := by decide +kernel
theorem dX8_thing_14 : decode cX8_thing 14 = .ok (.ireturn, 1) := by decide +kernel
theorem dX8_side_0 : decode cX8_side 0 = .ok (.iload_n 2, 1) := by decide +kernel
theorem dX8_side_1 : decode cX8_side 1 = .ok (.ifCond .ne 19, 3) := by decide +kernel
theorem dX8_side_4 : decode cX8_side 4 = .ok (.aload_n 0, 1) := by decide +kernel
theorem dX8_side_5 : decode cX8_side 5 = .ok (.getfield 7, 3) := by decide +kernel
theorem dX8_side_8 : decode cX8_side 8 = .ok (.bipush 35, 2) := by decide +kernel
theorem dX8_side_10 : decode cX8_side 10 = .ok (.iconst 4, 1) := by decide +kernel
theorem dX8_side_11 : decode cX8_side 11 = .ok (.iload_n 1, 1) := by decide +kernel
theorem dX8_side_12 : decode cX8_side 12 = .ok (.imul, 1) := by decide +kernel
theorem dX8_side_13 : decode cX8_side 13 = .ok (.iadd, 1) := by decide +kernel
theorem dX8_side_14 : decode cX8_side 14 = .ok (.iload_n 3, 1) := by decide +kernel
theorem dX8_side_15 : decode cX8_side 15 = .ok (.iadd, 1) := by decide +kernel
theorem dX8_side_16 : decode cX8_side 16 = .ok (.iaload, 1) := by decide +kernel
theorem dX8_side_17 : decode cX8_side 17 = .ok (.goto 13, 3) := by decide +kernel
theorem dX8_side_20 : decode cX8_side 20 = .ok (.aload_n 0, 1) := by decide +kernel
theorem dX8_side_21 : decode cX8_side 21 = .ok (.getfield 22, 3) := by decide +kernel
theorem dX8_side_24 : decode cX8_side 24 = .ok (.iconst 4, 1) := by decide +kernel
theorem dX8_side_25 : decode cX8_side 25 = .ok (.iload_n 1, 1) := by decide +kernel
theorem dX8_side_26 : decode cX8_side 26 = .ok (.imul, 1) := by decide +kernel
theorem dX8_side_27 : decode cX8_side 27 = .ok (.iload_n 3, 1) := by decide +kernel
theorem dX8_side_28 : decode cX8_side 28 = .ok (.iadd, 1) := by decide +kernel
theorem dX8_side_29 : decode cX8_side 29 = .ok (.iaload, 1) := by decide +kernel
theorem dX8_side_30 : decode cX8_side 30 = .ok (.ireturn, 1) := by decide +kernel
theorem dX8_layNode_0 : decode cX8_layNode 0 = .ok (.aload_n 0, 1) := by decide +kernel
theorem dX8_layNode_1 : decode cX8_layNode 1 = .ok (.iload_n 1, 1) := by decide +kernel
theorem dX8_layNode_2 : decode cX8_layNode 2 = .ok (.invokevirtual 81, 3) := by decide +kernel
theorem dX8_layNode_5 : decode cX8_layNode 5 = .ok (.istore_n 2, 1) := by decide +kernel
theorem dX8_layNode_6 : decode cX8_layNode 6 = .ok (.aload_n 0, 1) := by decide +kernel
theorem dX8_layNode_7 : decode cX8_layNode 7 = .ok (.getfield 25, 3) := by decide +kernel
theorem dX8_layNode_10 : decode cX8_layNode 10 = .ok (.iload_n 1, 1) := by decide +kernel
theorem dX8_layNode_11 : decode cX8_layNode 11 = .ok (.iconst 0, 1) := by decide +kernel
theorem dX8_layNode_12 : decode cX8_layNode 12 = .ok (.iastore, 1) := by decide +kernel
theorem dX8_layNode_13 : decode cX8_layNode 13 = .ok (.iconst 0, 1) := by decide +kernel
theorem dX8_layNode_14 : decode cX8_layNode 14 = .ok (.istore_n 3, 1) := by decide +kernel
theorem dX8_layNode_15 : decode cX8_layNode 15 = .ok (.iload_n 3, 1) := by decide +kernel
theorem dX8_layNode_16 : decode cX8_layNode 16 = .ok (.aload_n 0, 1) := by decide +kernel
theorem dX8_layNode_17 : decode cX8_layNode 17 = .ok (.iload_n 1, 1) := by decide +kernel
theorem dX8_layNode_18 : decode cX8_layNode 18 = .ok (.invokevirtual 85, 3) := by decide +kernel
theorem dX8_layNode_21 : decode cX8_layNode 21 = .ok (.if_icmp .ge 123, 3) := by decide +kernel
theorem dX8_layNode_24 : decode cX8_layNode 24 = .ok (.aload_n 0, 1) := by decide +kernel
theorem dX8_layNode_25 : decode cX8_layNode 25 = .ok (.iload_n 1, 1) := by decide +kernel
theorem dX8_layNode_26 : decode cX8_layNode 26 = .ok (.iload_n 3, 1) := by decide +kernel
theorem dX8_layNode_27 : decode cX8_layNode 27 = .ok (.invokevirtual 88, 3) := by decide +kernel
theorem dX8_layNode_30 : decode cX8_layNode 30 = .ok (.istore 4, 2) := by decide +kernel
theorem dX8_layNode_32 : decode cX8_layNode 32 = .ok (.aload_n 0, 1) := by decide +kernel
theorem dX8_layNode_33 : decode cX8_layNode 33 = .ok (.getfield 25, 3) := by decide +kernel
theorem dX8_layNode_36 : decode cX8_layNode 36 = .ok (.iload_n 1, 1) := by decide +kernel
theorem dX8_layNode_37 : decode cX8_layNode 37 = .ok (.dup2, 1) := by decide +kernel
theorem dX8_layNode_38 : decode cX8_layNode 38 = .ok (.iaload, 1) := by decide +kernel
theorem dX8_layNode_39 : decode cX8_layNode 39 = .ok (.iload_n 2, 1) := by decide +kernel
theorem dX8_layNode_40 : decode cX8_layNode 40 = .ok (.ifCond .ne 7, 3) := by decide +kernel
theorem dX8_layNode_43 : decode cX8_layNode 43 = .ok (.iconst 1, 1) := by decide +kernel
theorem dX8_layNode_44 : decode cX8_layNode 44 = .ok (.goto 10, 3) := by decide +kernel
theorem dX8_layNode_47 : decode cX8_layNode 47 = .ok (.aload_n 0, 1) := by decide +kernel
theorem dX8_layNode_48 : decode cX8_layNode 48 = .ok (.getfield 25, 3) := by decide +kernel
theorem dX8_layNode_51 : decode cX8_layNode 51 = .ok (.iload 4, 2) := by decide +kernel
theorem dX8_layNode_53 : decode cX8_layNode 53 = .ok (.iaload, 1) := by decide +kernel
theorem dX8_layNode_54 : decode cX8_layNode 54 = .ok (.iadd, 1) := by decide +kernel
theorem dX8_layNode_55 : decode cX8_layNode 55 = .ok (.iastore, 1) := by decide +kernel
theorem dX8_layNode_56 : decode cX8_layNode 56 = .ok (.iconst 0, 1) := by decide +kernel
theorem dX8_layNode_57 : decode cX8_layNode 57 = .ok (.istore 5, 2) := by decide +kernel
theorem dX8_layNode_59 : decode cX8_layNode 59 = .ok (.iload 5, 2) := by decide +kernel
theorem dX8_layNode_61 : decode cX8_layNode 61 = .ok (.iconst 4, 1) := by decide +kernel
theorem dX8_layNode_62 : decode cX8_layNode 62 = .ok (.if_icmp .ge 76, 3) := by decide +kernel
theorem dX8_layNode_65 : decode cX8_layNode 65 = .ok (.aload_n 0, 1) := by decide +kernel
theorem dX8_layNode_66 : decode cX8_layNode 66 = .ok (.iload 4, 2) := by decide +kernel
theorem dX8_layNode_68 : decode cX8_layNode 68 = .ok (.iload_n 2, 1) := by decide +kernel
theorem dX8_layNode_69 : decode cX8_layNode 69 = .ok (.iload 5, 2) := by decide +kernel
theorem dX8_layNode_71 : decode cX8_layNode 71 = .ok (.invokevirtual 92, 3) := by decide +kernel
theorem dX8_layNode_74 : decode cX8_layNode 74 = .ok (.istore 6, 2) := by decide +kernel
theorem dX8_layNode_76 : decode cX8_layNode 76 = .ok (.aload_n 0, 1) := by decide +kernel
theorem dX8_layNode_77 : decode cX8_layNode 77 = .ok (.getfield 22, 3) := by decide +kernel
theorem dX8_layNode_80 : decode cX8_layNode 80 = .ok (.iconst 4, 1) := by decide +kernel
theorem dX8_layNode_81 : decode cX8_layNode 81 = .ok (.iload_n 1, 1) := by decide +kernel
theorem dX8_layNode_82 : decode cX8_layNode 82 = .ok (.imul, 1) := by decide +kernel
theorem dX8_layNode_83 : decode cX8_layNode 83 = .ok (.iload 5, 2) := by decide +kernel
theorem dX8_layNode_85 : decode cX8_layNode 85 = .ok (.iadd, 1) := by decide +kernel
theorem dX8_layNode_86 : decode cX8_layNode 86 = .ok (.iaload, 1) := by decide +kernel
theorem dX8_layNode_87 : decode cX8_layNode 87 = .ok (.istore 7, 2) := by decide +kernel
theorem dX8_layNode_89 : decode cX8_layNode 89 = .ok (.aload_n 0, 1) := by decide +kernel
theorem dX8_layNode_90 : decode cX8_layNode 90 = .ok (.getfield 22, 3) := by decide +kernel
theorem dX8_layNode_93 : decode cX8_layNode 93 = .ok (.iconst 4, 1) := by decide +kernel
theorem dX8_layNode_94 : decode cX8_layNode 94 = .ok (.iload_n 1, 1) := by decide +kernel
theorem dX8_layNode_95 : decode cX8_layNode 95 = .ok (.imul, 1) := by decide +kernel
theorem dX8_layNode_96 : decode cX8_layNode 96 = .ok (.iload 5, 2) := by decide +kernel
theorem dX8_layNode_98 : decode cX8_layNode 98 = .ok (.iadd, 1) := by decide +kernel
theorem dX8_layNode_99 : decode cX8_layNode 99 = .ok (.iload_n 3, 1) := by decide +kernel
theorem dX8_layNode_100 : decode cX8_layNode 100 = .ok (.ifCond .ne 8, 3) := by decide +kernel
theorem dX8_layNode_103 : decode cX8_layNode 103 = .ok (.iload 6, 2) := by decide +kernel
theorem dX8_layNode_105 : decode cX8_layNode 105 = .ok (.goto 26, 3) := by decide +kernel
theorem dX8_layNode_108 : decode cX8_layNode 108 = .ok (.iload 5, 2) := by decide +kernel
theorem dX8_layNode_110 : decode cX8_layNode 110 = .ok (.iconst 2, 1) := by decide +kernel
theorem dX8_layNode_111 : decode cX8_layNode 111 = .ok (.if_icmp .ge 13, 3) := by decide +kernel
theorem dX8_layNode_114 : decode cX8_layNode 114 = .ok (.iload 7, 2) := by decide +kernel
theorem dX8_layNode_116 : decode cX8_layNode 116 = .ok (.iload 6, 2) := by decide +kernel
theorem dX8_layNode_118 : decode cX8_layNode 118 = .ok (.invokestatic 96, 3) := by decide +kernel
theorem dX8_layNode_121 : decode cX8_layNode 121 = .ok (.goto 10, 3) := by decide +kernel
theorem dX8_layNode_124 : decode cX8_layNode 124 = .ok (.iload 7, 2) := by decide +kernel
theorem dX8_layNode_126 : decode cX8_layNode 126 = .ok (.iload 6, 2) := by decide +kernel
theorem dX8_layNode_128 : decode cX8_layNode 128 = .ok (.invokestatic 99, 3) := by decide +kernel
theorem dX8_layNode_131 : decode cX8_layNode 131 = .ok (.iastore, 1) := by decide +kernel
theorem dX8_layNode_132 : decode cX8_layNode 132 = .ok (.iinc 5 1, 3) := by decide +kernel
theorem dX8_layNode_135 : decode cX8_layNode 135 = .ok (.goto (-76), 3) := by decide +kernel
theorem dX8_layNode_138 : decode cX8_layNode 138 = .ok (.iinc 3 1, 3) := by decide +kernel
theorem dX8_layNode_141 : decode cX8_layNode 141 = .ok (.goto (-126), 3) := by decide +kernel
theorem dX8_layNode_144 : decode cX8_layNode 144 = .ok (.return_, 1) := by decide +kernel
theorem dX8_lay_0 : decode cX8_lay 0 = .ok (.iconst 0, 1) := by decide +kernel
theorem dX8_lay_1 : decode cX8_lay 1 = .ok (.istore_n 1, 1) := by decide +kernel
theorem dX8_lay_2 : decode cX8_lay 2 = .ok (.iload_n 1, 1) := by decide +kernel
theorem dX8_lay_3 : decode cX8_lay 3 = .ok (.aload_n 0, 1) := by decide +kernel
theorem dX8_lay_4 : decode cX8_lay 4 = .ok (.aload_n 0, 1) := by decide +kernel
theorem dX8_lay_5 : decode cX8_lay 5 = .ok (.getfield 7, 3) := by decide +kernel
theorem dX8_lay_8 : decode cX8_lay 8 = .ok (.iconst 0, 1) := by decide +kernel
theorem dX8_lay_9 : decode cX8_lay 9 = .ok (.iaload, 1) := by decide +kernel
theorem dX8_lay_10 : decode cX8_lay 10 = .ok (.invokevirtual 81, 3) := by decide +kernel
theorem dX8_lay_13 : decode cX8_lay 13 = .ok (.if_icmp .gt 37, 3) := by decide +kernel
theorem dX8_lay_16 : decode cX8_lay 16 = .ok (.iconst 0, 1) := by decide +kernel
theorem dX8_lay_17 : decode cX8_lay 17 = .ok (.istore_n 2, 1) := by decide +kernel
theorem dX8_lay_18 : decode cX8_lay 18 = .ok (.iload_n 2, 1) := by decide +kernel
theorem dX8_lay_19 : decode cX8_lay 19 = .ok (.bipush 40, 2) := by decide +kernel
theorem dX8_lay_21 : decode cX8_lay 21 = .ok (.if_icmp .ge 23, 3) := by decide +kernel
theorem dX8_lay_24 : decode cX8_lay 24 = .ok (.aload_n 0, 1) := by decide +kernel
theorem dX8_lay_25 : decode cX8_lay 25 = .ok (.iload_n 2, 1) := by decide +kernel
theorem dX8_lay_26 : decode cX8_lay 26 = .ok (.invokevirtual 81, 3) := by decide +kernel
theorem dX8_lay_29 : decode cX8_lay 29 = .ok (.iload_n 1, 1) := by decide +kernel
theorem dX8_lay_30 : decode cX8_lay 30 = .ok (.if_icmp .ne 8, 3) := by decide +kernel
theorem dX8_lay_33 : decode cX8_lay 33 = .ok (.aload_n 0, 1) := by decide +kernel
theorem dX8_lay_34 : decode cX8_lay 34 = .ok (.iload_n 2, 1) := by decide +kernel
theorem dX8_lay_35 : decode cX8_lay 35 = .ok (.invokevirtual 102, 3) := by decide +kernel
theorem dX8_lay_38 : decode cX8_lay 38 = .ok (.iinc 2 1, 3) := by decide +kernel
theorem dX8_lay_41 : decode cX8_lay 41 = .ok (.goto (-23), 3) := by decide +kernel
theorem dX8_lay_44 : decode cX8_lay 44 = .ok (.iinc 1 1, 3) := by decide +kernel
theorem dX8_lay_47 : decode cX8_lay 47 = .ok (.goto (-45), 3) := by decide +kernel
theorem dX8_lay_50 : decode cX8_lay 50 = .ok (.return_, 1) := by decide +kernel
theorem dX8_takes_0 : decode cX8_takes 0 = .ok (.iconst 0, 1) := by decide +kernel
theorem dX8_takes_1 : decode cX8_takes 1 = .ok (.istore 4, 2) := by decide +kernel
theorem dX8_takes_3 : decode cX8_takes 3 = .ok (.iload 4, 2) := by decide +kernel
theorem dX8_takes_5 : decode cX8_takes 5 = .ok (.iconst 4, 1) := by decide +kernel
theorem dX8_takes_6 : decode cX8_takes 6 = .ok (.if_icmp .ge 21, 3) := by decide +kernel
theorem dX8_takes_9 : decode cX8_takes 9 = .ok (.aload_n 1, 1) := by decide +kernel
theorem dX8_takes_10 : decode cX8_takes 10 = .ok (.iload 4, 2) := by decide +kernel
theorem dX8_takes_12 : decode cX8_takes 12 = .ok (.aload_n 0, 1) := by decide +kernel
theorem dX8_takes_13 : decode cX8_takes 13 = .ok (.iload_n 2, 1) := by decide +kernel
theorem dX8_takes_14 : decode cX8_takes 14 = .ok (.iload_n 3, 1) := by decide +kernel
theorem dX8_takes_15 : decode cX8_takes 15 = .ok (.iload 4, 2) := by decide +kernel
theorem dX8_takes_17 : decode cX8_takes 17 = .ok (.invokevirtual 92, 3) := by decide +kernel
theorem dX8_takes_20 : decode cX8_takes 20 = .ok (.iastore, 1) := by decide +kernel
theorem dX8_takes_21 : decode cX8_takes 21 = .ok (.iinc 4 1, 3) := by decide +kernel
theorem dX8_takes_24 : decode cX8_takes 24 = .ok (.goto (-21), 3) := by decide +kernel
theorem dX8_takes_27 : decode cX8_takes 27 = .ok (.return_, 1) := by decide +kernel
theorem dX8_widens_0 : decode cX8_widens 0 = .ok (.iconst 0, 1) := by decide +kernel
theorem dX8_widens_1 : decode cX8_widens 1 = .ok (.istore 4, 2) := by decide +kernel
theorem dX8_widens_3 : decode cX8_widens 3 = .ok (.iload 4, 2) := by decide +kernel
theorem dX8_widens_5 : decode cX8_widens 5 = .ok (.iconst 4, 1) := by decide +kernel
theorem dX8_widens_6 : decode cX8_widens 6 = .ok (.if_icmp .ge 50, 3) := by decide +kernel
theorem dX8_widens_9 : decode cX8_widens 9 = .ok (.aload_n 0, 1) := by decide +kernel
theorem dX8_widens_10 : decode cX8_widens 10 = .ok (.iload_n 2, 1) := by decide +kernel
theorem dX8_widens_11 : decode cX8_widens 11 = .ok (.iload_n 3, 1) := by decide +kernel
theorem dX8_widens_12 : decode cX8_widens 12 = .ok (.iload 4, 2) := by decide +kernel
theorem dX8_widens_14 : decode cX8_widens 14 = .ok (.invokevirtual 92, 3) := by decide +kernel
theorem dX8_widens_17 : decode cX8_widens 17 = .ok (.istore 5, 2) := by decide +kernel
theorem dX8_widens_19 : decode cX8_widens 19 = .ok (.aload_n 1, 1) := by decide +kernel
theorem dX8_widens_20 : decode cX8_widens 20 = .ok (.iload 4, 2) := by decide +kernel
theorem dX8_widens_22 : decode cX8_widens 22 = .ok (.iload 4, 2) := by decide +kernel
theorem dX8_widens_24 : decode cX8_widens 24 = .ok (.iconst 2, 1) := by decide +kernel
theorem dX8_widens_25 : decode cX8_widens 25 = .ok (.if_icmp .ge 15, 3) := by decide +kernel
theorem dX8_widens_28 : decode cX8_widens 28 = .ok (.aload_n 1, 1) := by decide +kernel
theorem dX8_widens_29 : decode cX8_widens 29 = .ok (.iload 4, 2) := by decide +kernel
theorem dX8_widens_31 : decode cX8_widens 31 = .ok (.iaload, 1) := by decide +kernel
theorem dX8_widens_32 : decode cX8_widens 32 = .ok (.iload 5, 2) := by decide +kernel
theorem dX8_widens_34 : decode cX8_widens 34 = .ok (.invokestatic 96, 3) := by decide +kernel
theorem dX8_widens_37 : decode cX8_widens 37 = .ok (.goto 12, 3) := by decide +kernel
theorem dX8_widens_40 : decode cX8_widens 40 = .ok (.aload_n 1, 1) := by decide +kernel
theorem dX8_widens_41 : decode cX8_widens 41 = .ok (.iload 4, 2) := by decide +kernel
theorem dX8_widens_43 : decode cX8_widens 43 = .ok (.iaload, 1) := by decide +kernel
theorem dX8_widens_44 : decode cX8_widens 44 = .ok (.iload 5, 2) := by decide +kernel
theorem dX8_widens_46 : decode cX8_widens 46 = .ok (.invokestatic 99, 3) := by decide +kernel
theorem dX8_widens_49 : decode cX8_widens 49 = .ok (.iastore, 1) := by decide +kernel
theorem dX8_widens_50 : decode cX8_widens 50 = .ok (.iinc 4 1, 3) := by decide +kernel
theorem dX8_widens_53 : decode cX8_widens 53 = .ok (.goto (-50), 3) := by decide +kernel
theorem dX8_widens_56 : decode cX8_widens 56 = .ok (.return_, 1) := by decide +kernel
theorem dX8_area_0 : decode cX8_area 0 = .ok (.aload_n 0, 1) := by decide +kernel
theorem dX8_area_1 : decode cX8_area 1 = .ok (.iconst 2, 1) := by decide +kernel
theorem dX8_area_2 : decode cX8_area 2 = .ok (.iaload, 1) := by decide +kernel
theorem dX8_area_3 : decode cX8_area 3 = .ok (.aload_n 0, 1) := by decide +kernel
theorem dX8_area_4 : decode cX8_area 4 = .ok (.iconst 0, 1) := by decide +kernel
theorem dX8_area_5 : decode cX8_area 5 = .ok (.iaload, 1) := by decide +kernel
theorem dX8_area_6 : decode cX8_area 6 = .ok (.isub, 1) := by decide +kernel
theorem dX8_area_7 : decode cX8_area 7 = .ok (.aload_n 0, 1) := by decide +kernel
theorem dX8_area_8 : decode cX8_area 8 = .ok (.iconst 3, 1) := by decide +kernel
theorem dX8_area_9 : decode cX8_area 9 = .ok (.iaload, 1) := by decide +kernel
theorem dX8_area_10 : decode cX8_area 10 = .ok (.aload_n 0, 1) := by decide +kernel
theorem dX8_area_11 : decode cX8_area 11 = .ok (.iconst 1, 1) := by decide +kernel
theorem dX8_area_12 : decode cX8_area 12 = .ok (.iaload, 1) := by decide +kernel
theorem dX8_area_13 : decode cX8_area 13 = .ok (.isub, 1) := by decide +kernel
theorem dX8_area_14 : decode cX8_area 14 = .ok (.imul, 1) := by decide +kernel
theorem dX8_area_15 : decode cX8_area 15 = .ok (.ireturn, 1) := by decide +kernel
theorem dX8_common_0 : decode cX8_common 0 = .ok (.aload_n 0, 1) := by decide +kernel
theorem dX8_common_1 : decode cX8_common 1 = .ok (.getfield 28, 3) := by decide +kernel
theorem dX8_common_4 : decode cX8_common 4 = .ok (.iconst 2, 1) := by decide +kernel
theorem dX8_common_5 : decode cX8_common 5 = .ok (.iaload, 1) := by decide +kernel
theorem dX8_common_6 : decode cX8_common 6 = .ok (.aload_n 0, 1) := by decide +kernel
theorem dX8_common_7 : decode cX8_common 7 = .ok (.getfield 31, 3) := by decide +kernel
theorem dX8_common_10 : decode cX8_common 10 = .ok (.iconst 2, 1) := by decide +kernel
theorem dX8_common_11 : decode cX8_common 11 = .ok (.iaload, 1) := by decide +kernel
theorem dX8_common_12 : decode cX8_common 12 = .ok (.invokestatic 96, 3) := by decide +kernel
theorem dX8_common_15 : decode cX8_common 15 = .ok (.aload_n 0, 1) := by decide +kernel
theorem dX8_common_16 : decode cX8_common 16 = .ok (.getfield 28, 3) := by decide +kernel
theorem dX8_common_19 : decode cX8_common 19 = .ok (.iconst 0, 1) := by decide +kernel
theorem dX8_common_20 : decode cX8_common 20 = .ok (.iaload, 1) := by decide +kernel
theorem dX8_common_21 : decode cX8_common 21 = .ok (.aload_n 0, 1) := by decide +kernel
theorem dX8_common_22 : decode cX8_common 22 = .ok (.getfield 31, 3) := by decide +kernel
theorem dX8_common_25 : decode cX8_common 25 = .ok (.iconst 0, 1) := by decide +kernel
theorem dX8_common_26 : decode cX8_common 26 = .ok (.iaload, 1) := by decide +kernel
theorem dX8_common_27 : decode cX8_common 27 = .ok (.invokestatic 99, 3) := by decide +kernel
theorem dX8_common_30 : decode cX8_common 30 = .ok (.isub, 1) := by decide +kernel
theorem dX8_common_31 : decode cX8_common 31 = .ok (.istore_n 1, 1) := by decide +kernel
theorem dX8_common_32 : decode cX8_common 32 = .ok (.aload_n 0, 1) := by decide +kernel
theorem dX8_common_33 : decode cX8_common 33 = .ok (.getfield 28, 3) := by decide +kernel
theorem dX8_common_36 : decode cX8_common 36 = .ok (.iconst 3, 1) := by decide +kernel
theorem dX8_common_37 : decode cX8_common 37 = .ok (.iaload, 1) := by decide +kernel
theorem dX8_common_38 : decode cX8_common 38 = .ok (.aload_n 0, 1) := by decide +kernel
theorem dX8_common_39 : decode cX8_common 39 = .ok (.getfield 31, 3) := by decide +kernel
theorem dX8_common_42 : decode cX8_common 42 = .ok (.iconst 3, 1) := by decide +kernel
theorem dX8_common_43 : decode cX8_common 43 = .ok (.iaload, 1) := by decide +kernel
theorem dX8_common_44 : decode cX8_common 44 = .ok (.invokestatic 96, 3) := by decide +kernel
theorem dX8_common_47 : decode cX8_common 47 = .ok (.aload_n 0, 1) := by decide +kernel
theorem dX8_common_48 : decode cX8_common 48 = .ok (.getfield 28, 3) := by decide +kernel
theorem dX8_common_51 : decode cX8_common 51 = .ok (.iconst 1, 1) := by decide +kernel
theorem dX8_common_52 : decode cX8_common 52 = .ok (.iaload, 1) := by decide +kernel
theorem dX8_common_53 : decode cX8_common 53 = .ok (.aload_n 0, 1) := by decide +kernel
theorem dX8_common_54 : decode cX8_common 54 = .ok (.getfield 31, 3) := by decide +kernel
theorem dX8_common_57 : decode cX8_common 57 = .ok (.iconst 1, 1) := by decide +kernel
theorem dX8_common_58 : decode cX8_common 58 = .ok (.iaload, 1) := by decide +kernel
theorem dX8_common_59 : decode cX8_common 59 = .ok (.invokestatic 99, 3) := by decide +kernel
theorem dX8_common_62 : decode cX8_common 62 = .ok (.isub, 1) := by decide +kernel
theorem dX8_common_63 : decode cX8_common 63 = .ok (.istore_n 2, 1) := by decide +kernel
theorem dX8_common_64 : decode cX8_common 64 = .ok (.iload_n 1, 1) := by decide +kernel
theorem dX8_common_65 : decode cX8_common 65 = .ok (.ifCond .le 13, 3) := by decide +kernel
theorem dX8_common_68 : decode cX8_common 68 = .ok (.iload_n 2, 1) := by decide +kernel
theorem dX8_common_69 : decode cX8_common 69 = .ok (.ifCond .le 9, 3) := by decide +kernel
theorem dX8_common_72 : decode cX8_common 72 = .ok (.iload_n 1, 1) := by decide +kernel
theorem dX8_common_73 : decode cX8_common 73 = .ok (.iload_n 2, 1) := by decide +kernel
theorem dX8_common_74 : decode cX8_common 74 = .ok (.imul, 1) := by decide +kernel
theorem dX8_common_75 : decode cX8_common 75 = .ok (.goto 4, 3) := by decide +kernel
theorem dX8_common_78 : decode cX8_common 78 = .ok (.iconst 0, 1) := by decide +kernel
theorem dX8_common_79 : decode cX8_common 79 = .ok (.ireturn, 1) := by decide +kernel
theorem dX8_newNode_0 : decode cX8_newNode 0 = .ok (.iconst 0, 1) := by decide +kernel
theorem dX8_newNode_1 : decode cX8_newNode 1 = .ok (.istore_n 2, 1) := by decide +kernel
theorem dX8_newNode_2 : decode cX8_newNode 2 = .ok (.aload_n 0, 1) := by decide +kernel
theorem dX8_newNode_3 : decode cX8_newNode 3 = .ok (.iload_n 2, 1) := by decide +kernel
theorem dX8_newNode_4 : decode cX8_newNode 4 = .ok (.invokevirtual 81, 3) := by decide +kernel
theorem dX8_newNode_7 : decode cX8_newNode 7 = .ok (.iconst (-1), 1) := by decide +kernel
theorem dX8_newNode_8 : decode cX8_newNode 8 = .ok (.if_icmp .eq 9, 3) := by decide +kernel
theorem dX8_newNode_11 : decode cX8_newNode 11 = .ok (.iinc 2 1, 3) := by decide +kernel
theorem dX8_newNode_14 : decode cX8_newNode 14 = .ok (.goto (-12), 3) := by decide +kernel
theorem dX8_newNode_17 : decode cX8_newNode 17 = .ok (.aload_n 0, 1) := by decide +kernel
theorem dX8_newNode_18 : decode cX8_newNode 18 = .ok (.getfield 7, 3) := by decide +kernel
theorem dX8_newNode_21 : decode cX8_newNode 21 = .ok (.sipush 159, 3) := by decide +kernel
theorem dX8_newNode_24 : decode cX8_newNode 24 = .ok (.iload_n 2, 1) := by decide +kernel
theorem dX8_newNode_25 : decode cX8_newNode 25 = .ok (.iadd, 1) := by decide +kernel
theorem dX8_newNode_26 : decode cX8_newNode 26 = .ok (.iload_n 1, 1) := by decide +kernel
theorem dX8_newNode_27 : decode cX8_newNode 27 = .ok (.iastore, 1) := by decide +kernel
theorem dX8_newNode_28 : decode cX8_newNode 28 = .ok (.aload_n 0, 1) := by decide +kernel
theorem dX8_newNode_29 : decode cX8_newNode 29 = .ok (.getfield 7, 3) := by decide +kernel
theorem dX8_newNode_32 : decode cX8_newNode 32 = .ok (.sipush 199, 3) := by decide +kernel
theorem dX8_newNode_35 : decode cX8_newNode 35 = .ok (.iload_n 2, 1) := by decide +kernel
theorem dX8_newNode_36 : decode cX8_newNode 36 = .ok (.iadd, 1) := by decide +kernel
theorem dX8_newNode_37 : decode cX8_newNode 37 = .ok (.iconst 0, 1) := by decide +kernel
theorem dX8_newNode_38 : decode cX8_newNode 38 = .ok (.iastore, 1) := by decide +kernel
theorem dX8_newNode_39 : decode cX8_newNode 39 = .ok (.iload_n 2, 1) := by decide +kernel
theorem dX8_newNode_40 : decode cX8_newNode 40 = .ok (.ireturn, 1) := by decide +kernel
theorem dX8_puts_0 : decode cX8_puts 0 = .ok (.aload_n 0, 1) := by decide +kernel
theorem dX8_puts_1 : decode cX8_puts 1 = .ok (.iload_n 1, 1) := by decide +kernel
theorem dX8_puts_2 : decode cX8_puts 2 = .ok (.invokevirtual 85, 3) := by decide +kernel
theorem dX8_puts_5 : decode cX8_puts 5 = .ok (.istore 4, 2) := by decide +kernel
theorem dX8_puts_7 : decode cX8_puts 7 = .ok (.iload 4, 2) := by decide +kernel
theorem dX8_puts_9 : decode cX8_puts 9 = .ok (.iload_n 2, 1) := by decide +kernel
theorem dX8_puts_10 : decode cX8_puts 10 = .ok (.if_icmp .le 33, 3) := by decide +kernel
theorem dX8_puts_13 : decode cX8_puts 13 = .ok (.aload_n 0, 1) := by decide +kernel
theorem dX8_puts_14 : decode cX8_puts 14 = .ok (.getfield 7, 3) := by decide +kernel
theorem dX8_puts_17 : decode cX8_puts 17 = .ok (.sipush 239, 3) := by decide +kernel
theorem dX8_puts_20 : decode cX8_puts 20 = .ok (.iconst 5, 1) := by decide +kernel
theorem dX8_puts_21 : decode cX8_puts 21 = .ok (.iload_n 1, 1) := by decide +kernel
theorem dX8_puts_22 : decode cX8_puts 22 = .ok (.imul, 1) := by decide +kernel
theorem dX8_puts_23 : decode cX8_puts 23 = .ok (.iadd, 1) := by decide +kernel
theorem dX8_puts_24 : decode cX8_puts 24 = .ok (.iload 4, 2) := by decide +kernel
theorem dX8_puts_26 : decode cX8_puts 26 = .ok (.iadd, 1) := by decide +kernel
theorem dX8_puts_27 : decode cX8_puts 27 = .ok (.aload_n 0, 1) := by decide +kernel
theorem dX8_puts_28 : decode cX8_puts 28 = .ok (.iload_n 1, 1) := by decide +kernel
theorem dX8_puts_29 : decode cX8_puts 29 = .ok (.iload 4, 2) := by decide +kernel
theorem dX8_puts_31 : decode cX8_puts 31 = .ok (.iconst 1, 1) := by decide +kernel
theorem dX8_puts_32 : decode cX8_puts 32 = .ok (.isub, 1) := by decide +kernel
theorem dX8_puts_33 : decode cX8_puts 33 = .ok (.invokevirtual 88, 3) := by decide +kernel
theorem dX8_puts_36 : decode cX8_puts 36 = .ok (.iastore, 1) := by decide +kernel
theorem dX8_puts_37 : decode cX8_puts 37 = .ok (.iinc 4 (-1), 3) := by decide +kernel
theorem dX8_puts_40 : decode cX8_puts 40 = .ok (.goto (-33), 3) := by decide +kernel
theorem dX8_puts_43 : decode cX8_puts 43 = .ok (.aload_n 0, 1) := by decide +kernel
theorem dX8_puts_44 : decode cX8_puts 44 = .ok (.getfield 7, 3) := by decide +kernel
theorem dX8_puts_47 : decode cX8_puts 47 = .ok (.sipush 239, 3) := by decide +kernel
theorem dX8_puts_50 : decode cX8_puts 50 = .ok (.iconst 5, 1) := by decide +kernel
theorem dX8_puts_51 : decode cX8_puts 51 = .ok (.iload_n 1, 1) := by decide +kernel
theorem dX8_puts_52 : decode cX8_puts 52 = .ok (.imul, 1) := by decide +kernel
theorem dX8_puts_53 : decode cX8_puts 53 = .ok (.iadd, 1) := by decide +kernel
theorem dX8_puts_54 : decode cX8_puts 54 = .ok (.iload_n 2, 1) := by decide +kernel
theorem dX8_puts_55 : decode cX8_puts 55 = .ok (.iadd, 1) := by decide +kernel
theorem dX8_puts_56 : decode cX8_puts 56 = .ok (.iload_n 3, 1) := by decide +kernel
theorem dX8_puts_57 : decode cX8_puts 57 = .ok (.iastore, 1) := by decide +kernel
theorem dX8_puts_58 : decode cX8_puts 58 = .ok (.aload_n 0, 1) := by decide +kernel
theorem dX8_puts_59 : decode cX8_puts 59 = .ok (.getfield 7, 3) := by decide +kernel
theorem dX8_puts_62 : decode cX8_puts 62 = .ok (.sipush 199, 3) := by decide +kernel
theorem dX8_puts_65 : decode cX8_puts 65 = .ok (.iload_n 1, 1) := by decide +kernel
theorem dX8_puts_66 : decode cX8_puts 66 = .ok (.iadd, 1) := by decide +kernel
theorem dX8_puts_67 : decode cX8_puts 67 = .ok (.dup2, 1) := by decide +kernel
theorem dX8_puts_68 : decode cX8_puts 68 = .ok (.iaload, 1) := by decide +kernel
theorem dX8_puts_69 : decode cX8_puts 69 = .ok (.iconst 1, 1) := by decide +kernel
theorem dX8_puts_70 : decode cX8_puts 70 = .ok (.iadd, 1) := by decide +kernel
theorem dX8_puts_71 : decode cX8_puts 71 = .ok (.iastore, 1) := by decide +kernel
theorem dX8_puts_72 : decode cX8_puts 72 = .ok (.return_, 1) := by decide +kernel
theorem dX8_drops_0 : decode cX8_drops 0 = .ok (.aload_n 0, 1) := by decide +kernel
theorem dX8_drops_1 : decode cX8_drops 1 = .ok (.getfield 7, 3) := by decide +kernel
theorem dX8_drops_4 : decode cX8_drops 4 = .ok (.sipush 199, 3) := by decide +kernel
theorem dX8_drops_7 : decode cX8_drops 7 = .ok (.iload_n 1, 1) := by decide +kernel
theorem dX8_drops_8 : decode cX8_drops 8 = .ok (.iadd, 1) := by decide +kernel
theorem dX8_drops_9 : decode cX8_drops 9 = .ok (.dup2, 1) := by decide +kernel
theorem dX8_drops_10 : decode cX8_drops 10 = .ok (.iaload, 1) := by decide +kernel
theorem dX8_drops_11 : decode cX8_drops 11 = .ok (.iconst 1, 1) := by decide +kernel
theorem dX8_drops_12 : decode cX8_drops 12 = .ok (.isub, 1) := by decide +kernel
theorem dX8_drops_13 : decode cX8_drops 13 = .ok (.iastore, 1) := by decide +kernel
theorem dX8_drops_14 : decode cX8_drops 14 = .ok (.iload_n 2, 1) := by decide +kernel
theorem dX8_drops_15 : decode cX8_drops 15 = .ok (.istore_n 3, 1) := by decide +kernel
theorem dX8_drops_16 : decode cX8_drops 16 = .ok (.iload_n 3, 1) := by decide +kernel
theorem dX8_drops_17 : decode cX8_drops 17 = .ok (.aload_n 0, 1) := by decide +kernel
theorem dX8_drops_18 : decode cX8_drops 18 = .ok (.iload_n 1, 1) := by decide +kernel
theorem dX8_drops_19 : decode cX8_drops 19 = .ok (.invokevirtual 85, 3) := by decide +kernel
theorem dX8_drops_22 : decode cX8_drops 22 = .ok (.if_icmp .ge 31, 3) := by decide +kernel
theorem dX8_drops_25 : decode cX8_drops 25 = .ok (.aload_n 0, 1) := by decide +kernel
theorem dX8_drops_26 : decode cX8_drops 26 = .ok (.getfield 7, 3) := by decide +kernel
theorem dX8_drops_29 : decode cX8_drops 29 = .ok (.sipush 239, 3) := by decide +kernel
theorem dX8_drops_32 : decode cX8_drops 32 = .ok (.iconst 5, 1) := by decide +kernel
theorem dX8_drops_33 : decode cX8_drops 33 = .ok (.iload_n 1, 1) := by decide +kernel
theorem dX8_drops_34 : decode cX8_drops 34 = .ok (.imul, 1) := by decide +kernel
theorem dX8_drops_35 : decode cX8_drops 35 = .ok (.iadd, 1) := by decide +kernel
theorem dX8_drops_36 : decode cX8_drops 36 = .ok (.iload_n 3, 1) := by decide +kernel
theorem dX8_drops_37 : decode cX8_drops 37 = .ok (.iadd, 1) := by decide +kernel
theorem dX8_drops_38 : decode cX8_drops 38 = .ok (.aload_n 0, 1) := by decide +kernel
theorem dX8_drops_39 : decode cX8_drops 39 = .ok (.iload_n 1, 1) := by decide +kernel
theorem dX8_drops_40 : decode cX8_drops 40 = .ok (.iload_n 3, 1) := by decide +kernel
theorem dX8_drops_41 : decode cX8_drops 41 = .ok (.iconst 1, 1) := by decide +kernel
theorem dX8_drops_42 : decode cX8_drops 42 = .ok (.iadd, 1) := by decide +kernel
theorem dX8_drops_43 : decode cX8_drops 43 = .ok (.invokevirtual 88, 3) := by decide +kernel
theorem dX8_drops_46 : decode cX8_drops 46 = .ok (.iastore, 1) := by decide +kernel
theorem dX8_drops_47 : decode cX8_drops 47 = .ok (.iinc 3 1, 3) := by decide +kernel
theorem dX8_drops_50 : decode cX8_drops 50 = .ok (.goto (-34), 3) := by decide +kernel
theorem dX8_drops_53 : decode cX8_drops 53 = .ok (.return_, 1) := by decide +kernel
theorem dX8_placeIn_0 : decode cX8_placeIn 0 = .ok (.iconst 0, 1) := by decide +kernel
theorem dX8_placeIn_1 : decode cX8_placeIn 1 = .ok (.istore_n 3, 1) := by decide +kernel
theorem dX8_placeIn_2 : decode cX8_placeIn 2 = .ok (.iload_n 3, 1) := by decide +kernel
theorem dX8_placeIn_3 : decode cX8_placeIn 3 = .ok (.aload_n 0, 1) := by decide +kernel
theorem dX8_placeIn_4 : decode cX8_placeIn 4 = .ok (.iload_n 1, 1) := by decide +kernel
theorem dX8_placeIn_5 : decode cX8_placeIn 5 = .ok (.invokevirtual 85, 3) := by decide +kernel
theorem dX8_placeIn_8 : decode cX8_placeIn 8 = .ok (.if_icmp .ge 21, 3) := by decide +kernel
theorem dX8_placeIn_11 : decode cX8_placeIn 11 = .ok (.aload_n 0, 1) := by decide +kernel
theorem dX8_placeIn_12 : decode cX8_placeIn 12 = .ok (.iload_n 1, 1) := by decide +kernel
theorem dX8_placeIn_13 : decode cX8_placeIn 13 = .ok (.iload_n 3, 1) := by decide +kernel
theorem dX8_placeIn_14 : decode cX8_placeIn 14 = .ok (.invokevirtual 88, 3) := by decide +kernel
theorem dX8_placeIn_17 : decode cX8_placeIn 17 = .ok (.iload_n 2, 1) := by decide +kernel
theorem dX8_placeIn_18 : decode cX8_placeIn 18 = .ok (.if_icmp .ne 5, 3) := by decide +kernel
theorem dX8_placeIn_21 : decode cX8_placeIn 21 = .ok (.iload_n 3, 1) := by decide +kernel
theorem dX8_placeIn_22 : decode cX8_placeIn 22 = .ok (.ireturn, 1) := by decide +kernel
theorem dX8_placeIn_23 : decode cX8_placeIn 23 = .ok (.iinc 3 1, 3) := by decide +kernel
theorem dX8_placeIn_26 : decode cX8_placeIn 26 = .ok (.goto (-24), 3) := by decide +kernel
theorem dX8_placeIn_29 : decode cX8_placeIn 29 = .ok (.iconst (-1), 1) := by decide +kernel
theorem dX8_placeIn_30 : decode cX8_placeIn 30 = .ok (.ireturn, 1) := by decide +kernel
theorem dX8_holder_0 : decode cX8_holder 0 = .ok (.iconst 0, 1) := by decide +kernel
theorem dX8_holder_1 : decode cX8_holder 1 = .ok (.istore_n 3, 1) := by decide +kernel
theorem dX8_holder_2 : decode cX8_holder 2 = .ok (.iload_n 3, 1) := by decide +kernel
theorem dX8_holder_3 : decode cX8_holder 3 = .ok (.bipush 40, 2) := by decide +kernel
theorem dX8_holder_5 : decode cX8_holder 5 = .ok (.if_icmp .ge 29, 3) := by decide +kernel
theorem dX8_holder_8 : decode cX8_holder 8 = .ok (.aload_n 0, 1) := by decide +kernel
theorem dX8_holder_9 : decode cX8_holder 9 = .ok (.iload_n 3, 1) := by decide +kernel
theorem dX8_holder_10 : decode cX8_holder 10 = .ok (.invokevirtual 81, 3) := by decide +kernel
theorem dX8_holder_13 : decode cX8_holder 13 = .ok (.iload_n 2, 1) := by decide +kernel
theorem dX8_holder_14 : decode cX8_holder 14 = .ok (.if_icmp .ne 14, 3) := by decide +kernel
theorem dX8_holder_17 : decode cX8_holder 17 = .ok (.aload_n 0, 1) := by decide +kernel
theorem dX8_holder_18 : decode cX8_holder 18 = .ok (.iload_n 3, 1) := by decide +kernel
theorem dX8_holder_19 : decode cX8_holder 19 = .ok (.iload_n 1, 1) := by decide +kernel
theorem dX8_holder_20 : decode cX8_holder 20 = .ok (.invokevirtual 106, 3) := by decide +kernel
theorem dX8_holder_23 : decode cX8_holder 23 = .ok (.ifCond .lt 5, 3) := by decide +kernel
theorem dX8_holder_26 : decode cX8_holder 26 = .ok (.iload_n 3, 1) := by decide +kernel
theorem dX8_holder_27 : decode cX8_holder 27 = .ok (.ireturn, 1) := by decide +kernel
theorem dX8_holder_28 : decode cX8_holder 28 = .ok (.iinc 3 1, 3) := by decide +kernel
theorem dX8_holder_31 : decode cX8_holder 31 = .ok (.goto (-29), 3) := by decide +kernel
theorem dX8_holder_34 : decode cX8_holder 34 = .ok (.iconst (-1), 1) := by decide +kernel
theorem dX8_holder_35 : decode cX8_holder 35 = .ok (.ireturn, 1) := by decide +kernel
theorem dX8_waits_0 : decode cX8_waits 0 = .ok (.aload_n 0, 1) := by decide +kernel
theorem dX8_waits_1 : decode cX8_waits 1 = .ok (.getfield 34, 3) := by decide +kernel
theorem dX8_waits_4 : decode cX8_waits 4 = .ok (.aload_n 0, 1) := by decide +kernel
theorem dX8_waits_5 : decode cX8_waits 5 = .ok (.getfield 109, 3) := by decide +kernel
theorem dX8_waits_8 : decode cX8_waits 8 = .ok (.iload_n 1, 1) := by decide +kernel
theorem dX8_waits_9 : decode cX8_waits 9 = .ok (.iastore, 1) := by decide +kernel
theorem dX8_waits_10 : decode cX8_waits 10 = .ok (.aload_n 0, 1) := by decide +kernel
theorem dX8_waits_11 : decode cX8_waits 11 = .ok (.getfield 37, 3) := by decide +kernel
theorem dX8_waits_14 : decode cX8_waits 14 = .ok (.aload_n 0, 1) := by decide +kernel
theorem dX8_waits_15 : decode cX8_waits 15 = .ok (.getfield 109, 3) := by decide +kernel
theorem dX8_waits_18 : decode cX8_waits 18 = .ok (.iload_n 2, 1) := by decide +kernel
theorem dX8_waits_19 : decode cX8_waits 19 = .ok (.iastore, 1) := by decide +kernel
theorem dX8_waits_20 : decode cX8_waits 20 = .ok (.aload_n 0, 1) := by decide +kernel
theorem dX8_waits_21 : decode cX8_waits 21 = .ok (.dup, 1) := by decide +kernel
theorem dX8_waits_22 : decode cX8_waits 22 = .ok (.getfield 109, 3) := by decide +kernel
theorem dX8_waits_25 : decode cX8_waits 25 = .ok (.iconst 1, 1) := by decide +kernel
theorem dX8_waits_26 : decode cX8_waits 26 = .ok (.iadd, 1) := by decide +kernel
theorem dX8_waits_27 : decode cX8_waits 27 = .ok (.putfield 109, 3) := by decide +kernel
theorem dX8_waits_30 : decode cX8_waits 30 = .ok (.return_, 1) := by decide +kernel
theorem dX8_wayOn_0 : decode cX8_wayOn 0 = .ok (.iconst (-1), 1) := by decide +kernel
theorem dX8_wayOn_1 : decode cX8_wayOn 1 = .ok (.istore 4, 2) := by decide +kernel
theorem dX8_wayOn_3 : decode cX8_wayOn 3 = .ok (.iconst 0, 1) := by decide +kernel
theorem dX8_wayOn_4 : decode cX8_wayOn 4 = .ok (.istore 5, 2) := by decide +kernel
theorem dX8_wayOn_6 : decode cX8_wayOn 6 = .ok (.iconst 0, 1) := by decide +kernel
theorem dX8_wayOn_7 : decode cX8_wayOn 7 = .ok (.istore 6, 2) := by decide +kernel
theorem dX8_wayOn_9 : decode cX8_wayOn 9 = .ok (.iconst 0, 1) := by decide +kernel
theorem dX8_wayOn_10 : decode cX8_wayOn 10 = .ok (.istore 7, 2) := by decide +kernel
theorem dX8_wayOn_12 : decode cX8_wayOn 12 = .ok (.iload 7, 2) := by decide +kernel
theorem dX8_wayOn_14 : decode cX8_wayOn 14 = .ok (.aload_n 0, 1) := by decide +kernel
theorem dX8_wayOn_15 : decode cX8_wayOn 15 = .ok (.iload_n 1, 1) := by decide +kernel
theorem dX8_wayOn_16 : decode cX8_wayOn 16 = .ok (.invokevirtual 85, 3) := by decide +kernel
theorem dX8_wayOn_19 : decode cX8_wayOn 19 = .ok (.if_icmp .ge 104, 3) := by decide +kernel
theorem dX8_wayOn_22 : decode cX8_wayOn 22 = .ok (.aload_n 0, 1) := by decide +kernel
theorem dX8_wayOn_23 : decode cX8_wayOn 23 = .ok (.aload_n 0, 1) := by decide +kernel
theorem dX8_wayOn_24 : decode cX8_wayOn 24 = .ok (.getfield 28, 3) := by decide +kernel
theorem dX8_wayOn_27 : decode cX8_wayOn 27 = .ok (.aload_n 0, 1) := by decide +kernel
theorem dX8_wayOn_28 : decode cX8_wayOn 28 = .ok (.iload_n 1, 1) := by decide +kernel
theorem dX8_wayOn_29 : decode cX8_wayOn 29 = .ok (.iload 7, 2) := by decide +kernel
theorem dX8_wayOn_31 : decode cX8_wayOn 31 = .ok (.invokevirtual 88, 3) := by decide +kernel
theorem dX8_wayOn_34 : decode cX8_wayOn 34 = .ok (.aload_n 0, 1) := by decide +kernel
theorem dX8_wayOn_35 : decode cX8_wayOn 35 = .ok (.iload_n 1, 1) := by decide +kernel
theorem dX8_wayOn_36 : decode cX8_wayOn 36 = .ok (.invokevirtual 81, 3) := by decide +kernel
theorem dX8_wayOn_39 : decode cX8_wayOn 39 = .ok (.invokevirtual 112, 3) := by decide +kernel
theorem dX8_wayOn_42 : decode cX8_wayOn 42 = .ok (.aload_n 0, 1) := by decide +kernel
theorem dX8_wayOn_43 : decode cX8_wayOn 43 = .ok (.getfield 28, 3) := by decide +kernel
theorem dX8_wayOn_46 : decode cX8_wayOn 46 = .ok (.invokestatic 116, 3) := by decide +kernel
theorem dX8_wayOn_49 : decode cX8_wayOn 49 = .ok (.istore 8, 2) := by decide +kernel
theorem dX8_wayOn_51 : decode cX8_wayOn 51 = .ok (.aload_n 0, 1) := by decide +kernel
theorem dX8_wayOn_52 : decode cX8_wayOn 52 = .ok (.aload_n 0, 1) := by decide +kernel
theorem dX8_wayOn_53 : decode cX8_wayOn 53 = .ok (.getfield 28, 3) := by decide +kernel
theorem dX8_wayOn_56 : decode cX8_wayOn 56 = .ok (.iload_n 2, 1) := by decide +kernel
theorem dX8_wayOn_57 : decode cX8_wayOn 57 = .ok (.iload_n 3, 1) := by decide +kernel
theorem dX8_wayOn_58 : decode cX8_wayOn 58 = .ok (.invokevirtual 120, 3) := by decide +kernel
theorem dX8_wayOn_61 : decode cX8_wayOn 61 = .ok (.aload_n 0, 1) := by decide +kernel
theorem dX8_wayOn_62 : decode cX8_wayOn 62 = .ok (.getfield 28, 3) := by decide +kernel
theorem dX8_wayOn_65 : decode cX8_wayOn 65 = .ok (.invokestatic 116, 3) := by decide +kernel
theorem dX8_wayOn_68 : decode cX8_wayOn 68 = .ok (.iload 8, 2) := by decide +kernel
theorem dX8_wayOn_70 : decode cX8_wayOn 70 = .ok (.isub, 1) := by decide +kernel
theorem dX8_wayOn_71 : decode cX8_wayOn 71 = .ok (.istore 9, 2) := by decide +kernel
theorem dX8_wayOn_73 : decode cX8_wayOn 73 = .ok (.iload 4, 2) := by decide +kernel
theorem dX8_wayOn_75 : decode cX8_wayOn 75 = .ok (.iconst (-1), 1) := by decide +kernel
theorem dX8_wayOn_76 : decode cX8_wayOn 76 = .ok (.if_icmp .eq 24, 3) := by decide +kernel
theorem dX8_wayOn_79 : decode cX8_wayOn 79 = .ok (.iload 9, 2) := by decide +kernel
theorem dX8_wayOn_81 : decode cX8_wayOn 81 = .ok (.iload 5, 2) := by decide +kernel
theorem dX8_wayOn_83 : decode cX8_wayOn 83 = .ok (.if_icmp .lt 17, 3) := by decide +kernel
theorem dX8_wayOn_86 : decode cX8_wayOn 86 = .ok (.iload 9, 2) := by decide +kernel
theorem dX8_wayOn_88 : decode cX8_wayOn 88 = .ok (.iload 5, 2) := by decide +kernel
theorem dX8_wayOn_90 : decode cX8_wayOn 90 = .ok (.if_icmp .ne 27, 3) := by decide +kernel
theorem dX8_wayOn_93 : decode cX8_wayOn 93 = .ok (.iload 8, 2) := by decide +kernel
theorem dX8_wayOn_95 : decode cX8_wayOn 95 = .ok (.iload 6, 2) := by decide +kernel
theorem dX8_wayOn_97 : decode cX8_wayOn 97 = .ok (.if_icmp .ge 20, 3) := by decide +kernel
theorem dX8_wayOn_100 : decode cX8_wayOn 100 = .ok (.aload_n 0, 1) := by decide +kernel
theorem dX8_wayOn_101 : decode cX8_wayOn 101 = .ok (.iload_n 1, 1) := by decide +kernel
theorem dX8_wayOn_102 : decode cX8_wayOn 102 = .ok (.iload 7, 2) := by decide +kernel
theorem dX8_wayOn_104 : decode cX8_wayOn 104 = .ok (.invokevirtual 88, 3) := by decide +kernel
theorem dX8_wayOn_107 : decode cX8_wayOn 107 = .ok (.istore 4, 2) := by decide +kernel
theorem dX8_wayOn_109 : decode cX8_wayOn 109 = .ok (.iload 9, 2) := by decide +kernel
theorem dX8_wayOn_111 : decode cX8_wayOn 111 = .ok (.istore 5, 2) := by decide +kernel
theorem dX8_wayOn_113 : decode cX8_wayOn 113 = .ok (.iload 8, 2) := by decide +kernel
theorem dX8_wayOn_115 : decode cX8_wayOn 115 = .ok (.istore 6, 2) := by decide +kernel
theorem dX8_wayOn_117 : decode cX8_wayOn 117 = .ok (.iinc 7 1, 3) := by decide +kernel
theorem dX8_wayOn_120 : decode cX8_wayOn 120 = .ok (.goto (-108), 3) := by decide +kernel
theorem dX8_wayOn_123 : decode cX8_wayOn 123 = .ok (.iload 4, 2) := by decide +kernel
theorem dX8_wayOn_125 : decode cX8_wayOn 125 = .ok (.ireturn, 1) := by decide +kernel
theorem dX8_farOf_0 : decode cX8_farOf 0 = .ok (.iconst 0, 1) := by decide +kernel
theorem dX8_farOf_1 : decode cX8_farOf 1 = .ok (.istore_n 3, 1) := by decide +kernel
theorem dX8_farOf_2 : decode cX8_farOf 2 = .ok (.iconst 0, 1) := by decide +kernel
theorem dX8_farOf_3 : decode cX8_farOf 3 = .ok (.istore 4, 2) := by decide +kernel
theorem dX8_farOf_5 : decode cX8_farOf 5 = .ok (.iconst 0, 1) := by decide +kernel
theorem dX8_farOf_6 : decode cX8_farOf 6 = .ok (.istore 5, 2) := by decide +kernel
theorem dX8_farOf_8 : decode cX8_farOf 8 = .ok (.iload 5, 2) := by decide +kernel
theorem dX8_farOf_10 : decode cX8_farOf 10 = .ok (.iconst 4, 1) := by decide +kernel
theorem dX8_farOf_11 : decode cX8_farOf 11 = .ok (.if_icmp .ge 75, 3) := by decide +kernel
theorem dX8_farOf_14 : decode cX8_farOf 14 = .ok (.aload_n 0, 1) := by decide +kernel
theorem dX8_farOf_15 : decode cX8_farOf 15 = .ok (.aload_n 0, 1) := by decide +kernel
theorem dX8_farOf_16 : decode cX8_farOf 16 = .ok (.iload_n 1, 1) := by decide +kernel
theorem dX8_farOf_17 : decode cX8_farOf 17 = .ok (.iload_n 2, 1) := by decide +kernel
theorem dX8_farOf_18 : decode cX8_farOf 18 = .ok (.invokevirtual 88, 3) := by decide +kernel
theorem dX8_farOf_21 : decode cX8_farOf 21 = .ok (.aload_n 0, 1) := by decide +kernel
theorem dX8_farOf_22 : decode cX8_farOf 22 = .ok (.iload_n 1, 1) := by decide +kernel
theorem dX8_farOf_23 : decode cX8_farOf 23 = .ok (.invokevirtual 81, 3) := by decide +kernel
theorem dX8_farOf_26 : decode cX8_farOf 26 = .ok (.iload 5, 2) := by decide +kernel
theorem dX8_farOf_28 : decode cX8_farOf 28 = .ok (.invokevirtual 92, 3) := by decide +kernel
theorem dX8_farOf_31 : decode cX8_farOf 31 = .ok (.aload_n 0, 1) := by decide +kernel
theorem dX8_farOf_32 : decode cX8_farOf 32 = .ok (.getfield 22, 3) := by decide +kernel
theorem dX8_farOf_35 : decode cX8_farOf 35 = .ok (.iconst 4, 1) := by decide +kernel
theorem dX8_farOf_36 : decode cX8_farOf 36 = .ok (.iload_n 1, 1) := by decide +kernel
theorem dX8_farOf_37 : decode cX8_farOf 37 = .ok (.imul, 1) := by decide +kernel
theorem dX8_farOf_38 : decode cX8_farOf 38 = .ok (.iload 5, 2) := by decide +kernel
theorem dX8_farOf_40 : decode cX8_farOf 40 = .ok (.iadd, 1) := by decide +kernel
theorem dX8_farOf_41 : decode cX8_farOf 41 = .ok (.iaload, 1) := by decide +kernel
theorem dX8_farOf_42 : decode cX8_farOf 42 = .ok (.isub, 1) := by decide +kernel
theorem dX8_farOf_43 : decode cX8_farOf 43 = .ok (.istore 6, 2) := by decide +kernel
theorem dX8_farOf_45 : decode cX8_farOf 45 = .ok (.iload_n 3, 1) := by decide +kernel
theorem dX8_farOf_46 : decode cX8_farOf 46 = .ok (.iload 5, 2) := by decide +kernel
theorem dX8_farOf_48 : decode cX8_farOf 48 = .ok (.iconst 2, 1) := by decide +kernel
theorem dX8_farOf_49 : decode cX8_farOf 49 = .ok (.irem, 1) := by decide +kernel
theorem dX8_farOf_50 : decode cX8_farOf 50 = .ok (.ifCond .ne 8, 3) := by decide +kernel
theorem dX8_farOf_53 : decode cX8_farOf 53 = .ok (.iload 6, 2) := by decide +kernel
theorem dX8_farOf_55 : decode cX8_farOf 55 = .ok (.goto 4, 3) := by decide +kernel
theorem dX8_farOf_58 : decode cX8_farOf 58 = .ok (.iconst 0, 1) := by decide +kernel
theorem dX8_farOf_59 : decode cX8_farOf 59 = .ok (.iadd, 1) := by decide +kernel
theorem dX8_farOf_60 : decode cX8_farOf 60 = .ok (.istore_n 3, 1) := by decide +kernel
theorem dX8_farOf_61 : decode cX8_farOf 61 = .ok (.iload 4, 2) := by decide +kernel
theorem dX8_farOf_63 : decode cX8_farOf 63 = .ok (.iload 5, 2) := by decide +kernel
theorem dX8_farOf_65 : decode cX8_farOf 65 = .ok (.iconst 2, 1) := by decide +kernel
theorem dX8_farOf_66 : decode cX8_farOf 66 = .ok (.irem, 1) := by decide +kernel
theorem dX8_farOf_67 : decode cX8_farOf 67 = .ok (.iconst 1, 1) := by decide +kernel
theorem dX8_farOf_68 : decode cX8_farOf 68 = .ok (.if_icmp .ne 8, 3) := by decide +kernel
theorem dX8_farOf_71 : decode cX8_farOf 71 = .ok (.iload 6, 2) := by decide +kernel
theorem dX8_farOf_73 : decode cX8_farOf 73 = .ok (.goto 4, 3) := by decide +kernel
theorem dX8_farOf_76 : decode cX8_farOf 76 = .ok (.iconst 0, 1) := by decide +kernel
theorem dX8_farOf_77 : decode cX8_farOf 77 = .ok (.iadd, 1) := by decide +kernel
theorem dX8_farOf_78 : decode cX8_farOf 78 = .ok (.istore 4, 2) := by decide +kernel
theorem dX8_farOf_80 : decode cX8_farOf 80 = .ok (.iinc 5 1, 3) := by decide +kernel
theorem dX8_farOf_83 : decode cX8_farOf 83 = .ok (.goto (-75), 3) := by decide +kernel
theorem dX8_farOf_86 : decode cX8_farOf 86 = .ok (.iload_n 3, 1) := by decide +kernel
theorem dX8_farOf_87 : decode cX8_farOf 87 = .ok (.iload_n 3, 1) := by decide +kernel
theorem dX8_farOf_88 : decode cX8_farOf 88 = .ok (.imul, 1) := by decide +kernel
theorem dX8_farOf_89 : decode cX8_farOf 89 = .ok (.iload 4, 2) := by decide +kernel
theorem dX8_farOf_91 : decode cX8_farOf 91 = .ok (.iload 4, 2) := by decide +kernel
theorem dX8_farOf_93 : decode cX8_farOf 93 = .ok (.imul, 1) := by decide +kernel
theorem dX8_farOf_94 : decode cX8_farOf 94 = .ok (.iadd, 1) := by decide +kernel
theorem dX8_farOf_95 : decode cX8_farOf 95 = .ok (.ireturn, 1) := by decide +kernel
theorem dX8_farthest_0 : decode cX8_farthest 0 = .ok (.iconst (-1), 1) := by decide +kernel
theorem dX8_farthest_1 : decode cX8_farthest 1 = .ok (.istore_n 3, 1) := by decide +kernel
theorem dX8_farthest_2 : decode cX8_farthest 2 = .ok (.iconst 0, 1) := by decide +kernel
theorem dX8_farthest_3 : decode cX8_farthest 3 = .ok (.istore 4, 2) := by decide +kernel
theorem dX8_farthest_5 : decode cX8_farthest 5 = .ok (.iload 4, 2) := by decide +kernel
theorem dX8_farthest_7 : decode cX8_farthest 7 = .ok (.aload_n 0, 1) := by decide +kernel
theorem dX8_farthest_8 : decode cX8_farthest 8 = .ok (.iload_n 1, 1) := by decide +kernel
theorem dX8_farthest_9 : decode cX8_farthest 9 = .ok (.invokevirtual 85, 3) := by decide +kernel
theorem dX8_farthest_12 : decode cX8_farthest 12 = .ok (.if_icmp .ge 39, 3) := by decide +kernel
theorem dX8_farthest_15 : decode cX8_farthest 15 = .ok (.iload 4, 2) := by decide +kernel
theorem dX8_farthest_17 : decode cX8_farthest 17 = .ok (.iload_n 2, 1) := by decide +kernel
theorem dX8_farthest_18 : decode cX8_farthest 18 = .ok (.if_icmp .eq 27, 3) := by decide +kernel
theorem dX8_farthest_21 : decode cX8_farthest 21 = .ok (.iload_n 3, 1) := by decide +kernel
theorem dX8_farthest_22 : decode cX8_farthest 22 = .ok (.iconst (-1), 1) := by decide +kernel
theorem dX8_farthest_23 : decode cX8_farthest 23 = .ok (.if_icmp .eq 19, 3) := by decide +kernel
theorem dX8_farthest_26 : decode cX8_farthest 26 = .ok (.aload_n 0, 1) := by decide +kernel
theorem dX8_farthest_27 : decode cX8_farthest 27 = .ok (.iload_n 1, 1) := by decide +kernel
theorem dX8_farthest_28 : decode cX8_farthest 28 = .ok (.iload 4, 2) := by decide +kernel
theorem dX8_farthest_30 : decode cX8_farthest 30 = .ok (.invokevirtual 123, 3) := by decide +kernel
theorem dX8_farthest_33 : decode cX8_farthest 33 = .ok (.aload_n 0, 1) := by decide +kernel
theorem dX8_farthest_34 : decode cX8_farthest 34 = .ok (.iload_n 1, 1) := by decide +kernel
theorem dX8_farthest_35 : decode cX8_farthest 35 = .ok (.iload_n 3, 1) := by decide +kernel
theorem dX8_farthest_36 : decode cX8_farthest 36 = .ok (.invokevirtual 123, 3) := by decide +kernel
theorem dX8_farthest_39 : decode cX8_farthest 39 = .ok (.if_icmp .lt 6, 3) := by decide +kernel
theorem dX8_farthest_42 : decode cX8_farthest 42 = .ok (.iload 4, 2) := by decide +kernel
theorem dX8_farthest_44 : decode cX8_farthest 44 = .ok (.istore_n 3, 1) := by decide +kernel
theorem dX8_farthest_45 : decode cX8_farthest 45 = .ok (.iinc 4 1, 3) := by decide +kernel
theorem dX8_farthest_48 : decode cX8_farthest 48 = .ok (.goto (-43), 3) := by decide +kernel
theorem dX8_farthest_51 : decode cX8_farthest 51 = .ok (.iload_n 3, 1) := by decide +kernel
theorem dX8_farthest_52 : decode cX8_farthest 52 = .ok (.ireturn, 1) := by decide +kernel
theorem dX8_court_0 : decode cX8_court 0 = .ok (.aload_n 0, 1) := by decide +kernel
theorem dX8_court_1 : decode cX8_court 1 = .ok (.iload_n 1, 1) := by decide +kernel
theorem dX8_court_2 : decode cX8_court 2 = .ok (.invokevirtual 81, 3) := by decide +kernel
theorem dX8_court_5 : decode cX8_court 5 = .ok (.istore_n 2, 1) := by decide +kernel
theorem dX8_court_6 : decode cX8_court 6 = .ok (.aload_n 0, 1) := by decide +kernel
theorem dX8_court_7 : decode cX8_court 7 = .ok (.invokevirtual 126, 3) := by decide +kernel
theorem dX8_court_10 : decode cX8_court 10 = .ok (.aload_n 0, 1) := by decide +kernel
theorem dX8_court_11 : decode cX8_court 11 = .ok (.iload_n 1, 1) := by decide +kernel
theorem dX8_court_12 : decode cX8_court 12 = .ok (.iconst (-1), 1) := by decide +kernel
theorem dX8_court_13 : decode cX8_court 13 = .ok (.invokevirtual 129, 3) := by decide +kernel
theorem dX8_court_16 : decode cX8_court 16 = .ok (.istore_n 3, 1) := by decide +kernel
theorem dX8_court_17 : decode cX8_court 17 = .ok (.aload_n 0, 1) := by decide +kernel
theorem dX8_court_18 : decode cX8_court 18 = .ok (.iload_n 1, 1) := by decide +kernel
theorem dX8_court_19 : decode cX8_court 19 = .ok (.iload_n 3, 1) := by decide +kernel
theorem dX8_court_20 : decode cX8_court 20 = .ok (.invokevirtual 129, 3) := by decide +kernel
theorem dX8_court_23 : decode cX8_court 23 = .ok (.istore 4, 2) := by decide +kernel
theorem dX8_court_25 : decode cX8_court 25 = .ok (.aload_n 0, 1) := by decide +kernel
theorem dX8_court_26 : decode cX8_court 26 = .ok (.iload_n 1, 1) := by decide +kernel
theorem dX8_court_27 : decode cX8_court 27 = .ok (.iload_n 3, 1) := by decide +kernel
theorem dX8_court_28 : decode cX8_court 28 = .ok (.invokevirtual 123, 3) := by decide +kernel
theorem dX8_court_31 : decode cX8_court 31 = .ok (.aload_n 0, 1) := by decide +kernel
theorem dX8_court_32 : decode cX8_court 32 = .ok (.iload_n 1, 1) := by decide +kernel
theorem dX8_court_33 : decode cX8_court 33 = .ok (.iload 4, 2) := by decide +kernel
theorem dX8_court_35 : decode cX8_court 35 = .ok (.invokevirtual 123, 3) := by decide +kernel
theorem dX8_court_38 : decode cX8_court 38 = .ok (.if_icmp .lt 25, 3) := by decide +kernel
theorem dX8_court_41 : decode cX8_court 41 = .ok (.aload_n 0, 1) := by decide +kernel
theorem dX8_court_42 : decode cX8_court 42 = .ok (.iload_n 1, 1) := by decide +kernel
theorem dX8_court_43 : decode cX8_court 43 = .ok (.iload_n 3, 1) := by decide +kernel
theorem dX8_court_44 : decode cX8_court 44 = .ok (.invokevirtual 123, 3) := by decide +kernel
theorem dX8_court_47 : decode cX8_court 47 = .ok (.aload_n 0, 1) := by decide +kernel
theorem dX8_court_48 : decode cX8_court 48 = .ok (.iload_n 1, 1) := by decide +kernel
theorem dX8_court_49 : decode cX8_court 49 = .ok (.iload 4, 2) := by decide +kernel
theorem dX8_court_51 : decode cX8_court 51 = .ok (.invokevirtual 123, 3) := by decide +kernel
theorem dX8_court_54 : decode cX8_court 54 = .ok (.if_icmp .ne 13, 3) := by decide +kernel
theorem dX8_court_57 : decode cX8_court 57 = .ok (.iload_n 3, 1) := by decide +kernel
theorem dX8_court_58 : decode cX8_court 58 = .ok (.iload 4, 2) := by decide +kernel
theorem dX8_court_60 : decode cX8_court 60 = .ok (.if_icmp .ge 7, 3) := by decide +kernel
theorem dX8_court_63 : decode cX8_court 63 = .ok (.iconst 1, 1) := by decide +kernel
theorem dX8_court_64 : decode cX8_court 64 = .ok (.goto 4, 3) := by decide +kernel
theorem dX8_court_67 : decode cX8_court 67 = .ok (.iconst 0, 1) := by decide +kernel
theorem dX8_court_68 : decode cX8_court 68 = .ok (.istore 5, 2) := by decide +kernel
theorem dX8_court_70 : decode cX8_court 70 = .ok (.aload_n 0, 1) := by decide +kernel
theorem dX8_court_71 : decode cX8_court 71 = .ok (.iload_n 1, 1) := by decide +kernel
theorem dX8_court_72 : decode cX8_court 72 = .ok (.iload 5, 2) := by decide +kernel
theorem dX8_court_74 : decode cX8_court 74 = .ok (.ifCond .eq 7, 3) := by decide +kernel
theorem dX8_court_77 : decode cX8_court 77 = .ok (.iload_n 3, 1) := by decide +kernel
theorem dX8_court_78 : decode cX8_court 78 = .ok (.goto 5, 3) := by decide +kernel
theorem dX8_court_81 : decode cX8_court 81 = .ok (.iload 4, 2) := by decide +kernel
theorem dX8_court_83 : decode cX8_court 83 = .ok (.invokevirtual 88, 3) := by decide +kernel
theorem dX8_court_86 : decode cX8_court 86 = .ok (.istore 6, 2) := by decide +kernel
theorem dX8_court_88 : decode cX8_court 88 = .ok (.aload_n 0, 1) := by decide +kernel
theorem dX8_court_89 : decode cX8_court 89 = .ok (.iload_n 1, 1) := by decide +kernel
theorem dX8_court_90 : decode cX8_court 90 = .ok (.iload 5, 2) := by decide +kernel
theorem dX8_court_92 : decode cX8_court 92 = .ok (.ifCond .eq 8, 3) := by decide +kernel
theorem dX8_court_95 : decode cX8_court 95 = .ok (.iload 4, 2) := by decide +kernel
theorem dX8_court_97 : decode cX8_court 97 = .ok (.goto 4, 3) := by decide +kernel
theorem dX8_court_100 : decode cX8_court 100 = .ok (.iload_n 3, 1) := by decide +kernel
theorem dX8_court_101 : decode cX8_court 101 = .ok (.invokevirtual 88, 3) := by decide +kernel
theorem dX8_court_104 : decode cX8_court 104 = .ok (.istore 7, 2) := by decide +kernel
theorem dX8_court_106 : decode cX8_court 106 = .ok (.aload_n 0, 1) := by decide +kernel
theorem dX8_court_107 : decode cX8_court 107 = .ok (.dup, 1) := by decide +kernel
theorem dX8_court_108 : decode cX8_court 108 = .ok (.getfield 132, 3) := by decide +kernel
theorem dX8_court_111 : decode cX8_court 111 = .ok (.iconst 1, 1) := by decide +kernel
theorem dX8_court_112 : decode cX8_court 112 = .ok (.iload_n 2, 1) := by decide +kernel
theorem dX8_court_113 : decode cX8_court 113 = .ok (.ishl, 1) := by decide +kernel
theorem dX8_court_114 : decode cX8_court 114 = .ok (.ior, 1) := by decide +kernel
theorem dX8_court_115 : decode cX8_court 115 = .ok (.putfield 132, 3) := by decide +kernel
theorem dX8_court_118 : decode cX8_court 118 = .ok (.aload_n 0, 1) := by decide +kernel
theorem dX8_court_119 : decode cX8_court 119 = .ok (.getfield 40, 3) := by decide +kernel
theorem dX8_court_122 : decode cX8_court 122 = .ok (.aload_n 0, 1) := by decide +kernel
theorem dX8_court_123 : decode cX8_court 123 = .ok (.getfield 135, 3) := by decide +kernel
theorem dX8_court_126 : decode cX8_court 126 = .ok (.iload_n 2, 1) := by decide +kernel
theorem dX8_court_127 : decode cX8_court 127 = .ok (.iastore, 1) := by decide +kernel
theorem dX8_court_128 : decode cX8_court 128 = .ok (.aload_n 0, 1) := by decide +kernel
theorem dX8_court_129 : decode cX8_court 129 = .ok (.getfield 43, 3) := by decide +kernel
theorem dX8_court_132 : decode cX8_court 132 = .ok (.aload_n 0, 1) := by decide +kernel
theorem dX8_court_133 : decode cX8_court 133 = .ok (.getfield 135, 3) := by decide +kernel
theorem dX8_court_136 : decode cX8_court 136 = .ok (.iload_n 2, 1) := by decide +kernel
theorem dX8_court_137 : decode cX8_court 137 = .ok (.ifCond .ne 7, 3) := by decide +kernel
theorem dX8_court_140 : decode cX8_court 140 = .ok (.iconst 2, 1) := by decide +kernel
theorem dX8_court_141 : decode cX8_court 141 = .ok (.goto 18, 3) := by decide +kernel
theorem dX8_court_144 : decode cX8_court 144 = .ok (.aload_n 0, 1) := by decide +kernel
theorem dX8_court_145 : decode cX8_court 145 = .ok (.getfield 25, 3) := by decide +kernel
theorem dX8_court_148 : decode cX8_court 148 = .ok (.iload 6, 2) := by decide +kernel
theorem dX8_court_150 : decode cX8_court 150 = .ok (.iaload, 1) := by decide +kernel
theorem dX8_court_151 : decode cX8_court 151 = .ok (.aload_n 0, 1) := by decide +kernel
theorem dX8_court_152 : decode cX8_court 152 = .ok (.getfield 25, 3) := by decide +kernel
theorem dX8_court_155 : decode cX8_court 155 = .ok (.iload 7, 2) := by decide +kernel
theorem dX8_court_157 : decode cX8_court 157 = .ok (.iaload, 1) := by decide +kernel
theorem dX8_court_158 : decode cX8_court 158 = .ok (.iadd, 1) := by decide +kernel
theorem dX8_court_159 : decode cX8_court 159 = .ok (.iastore, 1) := by decide +kernel
theorem dX8_court_160 : decode cX8_court 160 = .ok (.aload_n 0, 1) := by decide +kernel
theorem dX8_court_161 : decode cX8_court 161 = .ok (.dup, 1) := by decide +kernel
theorem dX8_court_162 : decode cX8_court 162 = .ok (.getfield 135, 3) := by decide +kernel
theorem dX8_court_165 : decode cX8_court 165 = .ok (.iconst 1, 1) := by decide +kernel
theorem dX8_court_166 : decode cX8_court 166 = .ok (.iadd, 1) := by decide +kernel
theorem dX8_court_167 : decode cX8_court 167 = .ok (.putfield 135, 3) := by decide +kernel
theorem dX8_court_170 : decode cX8_court 170 = .ok (.aload_n 0, 1) := by decide +kernel
theorem dX8_court_171 : decode cX8_court 171 = .ok (.getfield 7, 3) := by decide +kernel
theorem dX8_court_174 : decode cX8_court 174 = .ok (.iconst 1, 1) := by decide +kernel
theorem dX8_court_175 : decode cX8_court 175 = .ok (.dup2, 1) := by decide +kernel
theorem dX8_court_176 : decode cX8_court 176 = .ok (.iaload, 1) := by decide +kernel
theorem dX8_court_177 : decode cX8_court 177 = .ok (.iconst 1, 1) := by decide +kernel
theorem dX8_court_178 : decode cX8_court 178 = .ok (.iadd, 1) := by decide +kernel
theorem dX8_court_179 : decode cX8_court 179 = .ok (.iastore, 1) := by decide +kernel
theorem dX8_court_180 : decode cX8_court 180 = .ok (.aload_n 0, 1) := by decide +kernel
theorem dX8_court_181 : decode cX8_court 181 = .ok (.iload_n 1, 1) := by decide +kernel
theorem dX8_court_182 : decode cX8_court 182 = .ok (.iload_n 3, 1) := by decide +kernel
theorem dX8_court_183 : decode cX8_court 183 = .ok (.iload 4, 2) := by decide +kernel
theorem dX8_court_185 : decode cX8_court 185 = .ok (.invokestatic 99, 3) := by decide +kernel
theorem dX8_court_188 : decode cX8_court 188 = .ok (.invokevirtual 138, 3) := by decide +kernel
theorem dX8_court_191 : decode cX8_court 191 = .ok (.aload_n 0, 1) := by decide +kernel
theorem dX8_court_192 : decode cX8_court 192 = .ok (.iload_n 1, 1) := by decide +kernel
theorem dX8_court_193 : decode cX8_court 193 = .ok (.iload_n 3, 1) := by decide +kernel
theorem dX8_court_194 : decode cX8_court 194 = .ok (.iload 4, 2) := by decide +kernel
theorem dX8_court_196 : decode cX8_court 196 = .ok (.invokestatic 96, 3) := by decide +kernel
theorem dX8_court_199 : decode cX8_court 199 = .ok (.invokevirtual 138, 3) := by decide +kernel
theorem dX8_court_202 : decode cX8_court 202 = .ok (.aload_n 0, 1) := by decide +kernel
theorem dX8_court_203 : decode cX8_court 203 = .ok (.iload 7, 2) := by decide +kernel
theorem dX8_court_205 : decode cX8_court 205 = .ok (.iload_n 2, 1) := by decide +kernel
theorem dX8_court_206 : decode cX8_court 206 = .ok (.invokevirtual 142, 3) := by decide +kernel
theorem dX8_court_209 : decode cX8_court 209 = .ok (.aload_n 0, 1) := by decide +kernel
theorem dX8_court_210 : decode cX8_court 210 = .ok (.iload 6, 2) := by decide +kernel
theorem dX8_court_212 : decode cX8_court 212 = .ok (.iload_n 2, 1) := by decide +kernel
theorem dX8_court_213 : decode cX8_court 213 = .ok (.invokevirtual 142, 3) := by decide +kernel
theorem dX8_court_216 : decode cX8_court 216 = .ok (.return_, 1) := by decide +kernel
theorem dX8_sorts_0 : decode cX8_sorts 0 = .ok (.aload_n 0, 1) := by decide +kernel
theorem dX8_sorts_1 : decode cX8_sorts 1 = .ok (.iload_n 1, 1) := by decide +kernel
theorem dX8_sorts_2 : decode cX8_sorts 2 = .ok (.invokevirtual 81, 3) := by decide +kernel
theorem dX8_sorts_5 : decode cX8_sorts 5 = .ok (.istore_n 3, 1) := by decide +kernel
theorem dX8_sorts_6 : decode cX8_sorts 6 = .ok (.iconst 0, 1) := by decide +kernel
theorem dX8_sorts_7 : decode cX8_sorts 7 = .ok (.istore 4, 2) := by decide +kernel
theorem dX8_sorts_9 : decode cX8_sorts 9 = .ok (.iload 4, 2) := by decide +kernel
theorem dX8_sorts_11 : decode cX8_sorts 11 = .ok (.iconst 5, 1) := by decide +kernel
theorem dX8_sorts_12 : decode cX8_sorts 12 = .ok (.if_icmp .ge 140, 3) := by decide +kernel
theorem dX8_sorts_15 : decode cX8_sorts 15 = .ok (.aload_n 0, 1) := by decide +kernel
theorem dX8_sorts_16 : decode cX8_sorts 16 = .ok (.iload_n 1, 1) := by decide +kernel
theorem dX8_sorts_17 : decode cX8_sorts 17 = .ok (.iload 4, 2) := by decide +kernel
theorem dX8_sorts_19 : decode cX8_sorts 19 = .ok (.invokevirtual 88, 3) := by decide +kernel
theorem dX8_sorts_22 : decode cX8_sorts 22 = .ok (.istore 5, 2) := by decide +kernel
theorem dX8_sorts_24 : decode cX8_sorts 24 = .ok (.iload 4, 2) := by decide +kernel
theorem dX8_sorts_26 : decode cX8_sorts 26 = .ok (.istore 6, 2) := by decide +kernel
theorem dX8_sorts_28 : decode cX8_sorts 28 = .ok (.iload 6, 2) := by decide +kernel
theorem dX8_sorts_30 : decode cX8_sorts 30 = .ok (.ifCond .le 107, 3) := by decide +kernel
theorem dX8_sorts_33 : decode cX8_sorts 33 = .ok (.aload_n 0, 1) := by decide +kernel
theorem dX8_sorts_34 : decode cX8_sorts 34 = .ok (.aload_n 0, 1) := by decide +kernel
theorem dX8_sorts_35 : decode cX8_sorts 35 = .ok (.getfield 52, 3) := by decide +kernel
theorem dX8_sorts_38 : decode cX8_sorts 38 = .ok (.iload 6, 2) := by decide +kernel
theorem dX8_sorts_40 : decode cX8_sorts 40 = .ok (.iconst 1, 1) := by decide +kernel
theorem dX8_sorts_41 : decode cX8_sorts 41 = .ok (.isub, 1) := by decide +kernel
theorem dX8_sorts_42 : decode cX8_sorts 42 = .ok (.iaload, 1) := by decide +kernel
theorem dX8_sorts_43 : decode cX8_sorts 43 = .ok (.iload_n 3, 1) := by decide +kernel
theorem dX8_sorts_44 : decode cX8_sorts 44 = .ok (.iload_n 2, 1) := by decide +kernel
theorem dX8_sorts_45 : decode cX8_sorts 45 = .ok (.invokevirtual 92, 3) := by decide +kernel
theorem dX8_sorts_48 : decode cX8_sorts 48 = .ok (.aload_n 0, 1) := by decide +kernel
theorem dX8_sorts_49 : decode cX8_sorts 49 = .ok (.iload 5, 2) := by decide +kernel
theorem dX8_sorts_51 : decode cX8_sorts 51 = .ok (.iload_n 3, 1) := by decide +kernel
theorem dX8_sorts_52 : decode cX8_sorts 52 = .ok (.iload_n 2, 1) := by decide +kernel
theorem dX8_sorts_53 : decode cX8_sorts 53 = .ok (.invokevirtual 92, 3) := by decide +kernel
theorem dX8_sorts_56 : decode cX8_sorts 56 = .ok (.if_icmp .gt 59, 3) := by decide +kernel
theorem dX8_sorts_59 : decode cX8_sorts 59 = .ok (.aload_n 0, 1) := by decide +kernel
theorem dX8_sorts_60 : decode cX8_sorts 60 = .ok (.aload_n 0, 1) := by decide +kernel
theorem dX8_sorts_61 : decode cX8_sorts 61 = .ok (.getfield 52, 3) := by decide +kernel
theorem dX8_sorts_64 : decode cX8_sorts 64 = .ok (.iload 6, 2) := by decide +kernel
theorem dX8_sorts_66 : decode cX8_sorts 66 = .ok (.iconst 1, 1) := by decide +kernel
theorem dX8_sorts_67 : decode cX8_sorts 67 = .ok (.isub, 1) := by decide +kernel
theorem dX8_sorts_68 : decode cX8_sorts 68 = .ok (.iaload, 1) := by decide +kernel
theorem dX8_sorts_69 : decode cX8_sorts 69 = .ok (.iload_n 3, 1) := by decide +kernel
theorem dX8_sorts_70 : decode cX8_sorts 70 = .ok (.iload_n 2, 1) := by decide +kernel
theorem dX8_sorts_71 : decode cX8_sorts 71 = .ok (.invokevirtual 92, 3) := by decide +kernel
theorem dX8_sorts_74 : decode cX8_sorts 74 = .ok (.aload_n 0, 1) := by decide +kernel
theorem dX8_sorts_75 : decode cX8_sorts 75 = .ok (.iload 5, 2) := by decide +kernel
theorem dX8_sorts_77 : decode cX8_sorts 77 = .ok (.iload_n 3, 1) := by decide +kernel
theorem dX8_sorts_78 : decode cX8_sorts 78 = .ok (.iload_n 2, 1) := by decide +kernel
theorem dX8_sorts_79 : decode cX8_sorts 79 = .ok (.invokevirtual 92, 3) := by decide +kernel
theorem dX8_sorts_82 : decode cX8_sorts 82 = .ok (.if_icmp .ne 55, 3) := by decide +kernel
theorem dX8_sorts_85 : decode cX8_sorts 85 = .ok (.aload_n 0, 1) := by decide +kernel
theorem dX8_sorts_86 : decode cX8_sorts 86 = .ok (.aload_n 0, 1) := by decide +kernel
theorem dX8_sorts_87 : decode cX8_sorts 87 = .ok (.getfield 52, 3) := by decide +kernel
theorem dX8_sorts_90 : decode cX8_sorts 90 = .ok (.iload 6, 2) := by decide +kernel
theorem dX8_sorts_92 : decode cX8_sorts 92 = .ok (.iconst 1, 1) := by decide +kernel
theorem dX8_sorts_93 : decode cX8_sorts 93 = .ok (.isub, 1) := by decide +kernel
theorem dX8_sorts_94 : decode cX8_sorts 94 = .ok (.iaload, 1) := by decide +kernel
theorem dX8_sorts_95 : decode cX8_sorts 95 = .ok (.iload_n 3, 1) := by decide +kernel
theorem dX8_sorts_96 : decode cX8_sorts 96 = .ok (.iconst 2, 1) := by decide +kernel
theorem dX8_sorts_97 : decode cX8_sorts 97 = .ok (.iload_n 2, 1) := by decide +kernel
theorem dX8_sorts_98 : decode cX8_sorts 98 = .ok (.iadd, 1) := by decide +kernel
theorem dX8_sorts_99 : decode cX8_sorts 99 = .ok (.invokevirtual 92, 3) := by decide +kernel
theorem dX8_sorts_102 : decode cX8_sorts 102 = .ok (.aload_n 0, 1) := by decide +kernel
theorem dX8_sorts_103 : decode cX8_sorts 103 = .ok (.iload 5, 2) := by decide +kernel
theorem dX8_sorts_105 : decode cX8_sorts 105 = .ok (.iload_n 3, 1) := by decide +kernel
theorem dX8_sorts_106 : decode cX8_sorts 106 = .ok (.iconst 2, 1) := by decide +kernel
theorem dX8_sorts_107 : decode cX8_sorts 107 = .ok (.iload_n 2, 1) := by decide +kernel
theorem dX8_sorts_108 : decode cX8_sorts 108 = .ok (.iadd, 1) := by decide +kernel
theorem dX8_sorts_109 : decode cX8_sorts 109 = .ok (.invokevirtual 92, 3) := by decide +kernel
theorem dX8_sorts_112 : decode cX8_sorts 112 = .ok (.if_icmp .le 25, 3) := by decide +kernel
theorem dX8_sorts_115 : decode cX8_sorts 115 = .ok (.aload_n 0, 1) := by decide +kernel
theorem dX8_sorts_116 : decode cX8_sorts 116 = .ok (.getfield 52, 3) := by decide +kernel
theorem dX8_sorts_119 : decode cX8_sorts 119 = .ok (.iload 6, 2) := by decide +kernel
theorem dX8_sorts_121 : decode cX8_sorts 121 = .ok (.aload_n 0, 1) := by decide +kernel
theorem dX8_sorts_122 : decode cX8_sorts 122 = .ok (.getfield 52, 3) := by decide +kernel
theorem dX8_sorts_125 : decode cX8_sorts 125 = .ok (.iload 6, 2) := by decide +kernel
theorem dX8_sorts_127 : decode cX8_sorts 127 = .ok (.iconst 1, 1) := by decide +kernel
theorem dX8_sorts_128 : decode cX8_sorts 128 = .ok (.isub, 1) := by decide +kernel
theorem dX8_sorts_129 : decode cX8_sorts 129 = .ok (.iaload, 1) := by decide +kernel
theorem dX8_sorts_130 : decode cX8_sorts 130 = .ok (.iastore, 1) := by decide +kernel
theorem dX8_sorts_131 : decode cX8_sorts 131 = .ok (.iinc 6 (-1), 3) := by decide +kernel
theorem dX8_sorts_134 : decode cX8_sorts 134 = .ok (.goto (-106), 3) := by decide +kernel
theorem dX8_sorts_137 : decode cX8_sorts 137 = .ok (.aload_n 0, 1) := by decide +kernel
theorem dX8_sorts_138 : decode cX8_sorts 138 = .ok (.getfield 52, 3) := by decide +kernel
theorem dX8_sorts_141 : decode cX8_sorts 141 = .ok (.iload 6, 2) := by decide +kernel
theorem dX8_sorts_143 : decode cX8_sorts 143 = .ok (.iload 5, 2) := by decide +kernel
theorem dX8_sorts_145 : decode cX8_sorts 145 = .ok (.iastore, 1) := by decide +kernel
theorem dX8_sorts_146 : decode cX8_sorts 146 = .ok (.iinc 4 1, 3) := by decide +kernel
theorem dX8_sorts_149 : decode cX8_sorts 149 = .ok (.goto (-140), 3) := by decide +kernel
theorem dX8_sorts_152 : decode cX8_sorts 152 = .ok (.return_, 1) := by decide +kernel
theorem dX8_splits_0 : decode cX8_splits 0 = .ok (.aload_n 0, 1) := by decide +kernel
theorem dX8_splits_1 : decode cX8_splits 1 = .ok (.iload_n 1, 1) := by decide +kernel
theorem dX8_splits_2 : decode cX8_splits 2 = .ok (.invokevirtual 81, 3) := by decide +kernel
theorem dX8_splits_5 : decode cX8_splits 5 = .ok (.istore_n 2, 1) := by decide +kernel
theorem dX8_splits_6 : decode cX8_splits 6 = .ok (.aload_n 0, 1) := by decide +kernel
theorem dX8_splits_7 : decode cX8_splits 7 = .ok (.invokevirtual 126, 3) := by decide +kernel
theorem dX8_splits_10 : decode cX8_splits 10 = .ok (.iconst (-1), 1) := by decide +kernel
theorem dX8_splits_11 : decode cX8_splits 11 = .ok (.istore_n 3, 1) := by decide +kernel
theorem dX8_splits_12 : decode cX8_splits 12 = .ok (.iconst 0, 1) := by decide +kernel
theorem dX8_splits_13 : decode cX8_splits 13 = .ok (.istore 4, 2) := by decide +kernel
theorem dX8_splits_15 : decode cX8_splits 15 = .ok (.iconst 0, 1) := by decide +kernel
theorem dX8_splits_16 : decode cX8_splits 16 = .ok (.istore 5, 2) := by decide +kernel
theorem dX8_splits_18 : decode cX8_splits 18 = .ok (.iconst 0, 1) := by decide +kernel
theorem dX8_splits_19 : decode cX8_splits 19 = .ok (.istore 6, 2) := by decide +kernel
theorem dX8_splits_21 : decode cX8_splits 21 = .ok (.iload 6, 2) := by decide +kernel
theorem dX8_splits_23 : decode cX8_splits 23 = .ok (.iconst 4, 1) := by decide +kernel
theorem dX8_splits_24 : decode cX8_splits 24 = .ok (.if_icmp .ge 191, 3) := by decide +kernel
theorem dX8_splits_27 : decode cX8_splits 27 = .ok (.aload_n 0, 1) := by decide +kernel
theorem dX8_splits_28 : decode cX8_splits 28 = .ok (.iload_n 1, 1) := by decide +kernel
theorem dX8_splits_29 : decode cX8_splits 29 = .ok (.iload 6, 2) := by decide +kernel
theorem dX8_splits_31 : decode cX8_splits 31 = .ok (.iconst 2, 1) := by decide +kernel
theorem dX8_splits_32 : decode cX8_splits 32 = .ok (.idiv, 1) := by decide +kernel
theorem dX8_splits_33 : decode cX8_splits 33 = .ok (.invokevirtual 145, 3) := by decide +kernel
theorem dX8_splits_36 : decode cX8_splits 36 = .ok (.iconst 2, 1) := by decide +kernel
theorem dX8_splits_37 : decode cX8_splits 37 = .ok (.iload 6, 2) := by decide +kernel
theorem dX8_splits_39 : decode cX8_splits 39 = .ok (.iconst 2, 1) := by decide +kernel
theorem dX8_splits_40 : decode cX8_splits 40 = .ok (.irem, 1) := by decide +kernel
theorem dX8_splits_41 : decode cX8_splits 41 = .ok (.iadd, 1) := by decide +kernel
theorem dX8_splits_42 : decode cX8_splits 42 = .ok (.istore 7, 2) := by decide +kernel
theorem dX8_splits_44 : decode cX8_splits 44 = .ok (.aload_n 0, 1) := by decide +kernel
theorem dX8_splits_45 : decode cX8_splits 45 = .ok (.aload_n 0, 1) := by decide +kernel
theorem dX8_splits_46 : decode cX8_splits 46 = .ok (.getfield 28, 3) := by decide +kernel
theorem dX8_splits_49 : decode cX8_splits 49 = .ok (.aload_n 0, 1) := by decide +kernel
theorem dX8_splits_50 : decode cX8_splits 50 = .ok (.getfield 52, 3) := by decide +kernel
theorem dX8_splits_53 : decode cX8_splits 53 = .ok (.iconst 0, 1) := by decide +kernel
theorem dX8_splits_54 : decode cX8_splits 54 = .ok (.iaload, 1) := by decide +kernel
theorem dX8_splits_55 : decode cX8_splits 55 = .ok (.iload_n 2, 1) := by decide +kernel
theorem dX8_splits_56 : decode cX8_splits 56 = .ok (.invokevirtual 112, 3) := by decide +kernel
theorem dX8_splits_59 : decode cX8_splits 59 = .ok (.aload_n 0, 1) := by decide +kernel
theorem dX8_splits_60 : decode cX8_splits 60 = .ok (.aload_n 0, 1) := by decide +kernel
theorem dX8_splits_61 : decode cX8_splits 61 = .ok (.getfield 31, 3) := by decide +kernel
theorem dX8_splits_64 : decode cX8_splits 64 = .ok (.aload_n 0, 1) := by decide +kernel
theorem dX8_splits_65 : decode cX8_splits 65 = .ok (.getfield 52, 3) := by decide +kernel
theorem dX8_splits_68 : decode cX8_splits 68 = .ok (.iload 7, 2) := by decide +kernel
theorem dX8_splits_70 : decode cX8_splits 70 = .ok (.iaload, 1) := by decide +kernel
theorem dX8_splits_71 : decode cX8_splits 71 = .ok (.iload_n 2, 1) := by decide +kernel
theorem dX8_splits_72 : decode cX8_splits 72 = .ok (.invokevirtual 112, 3) := by decide +kernel
theorem dX8_splits_75 : decode cX8_splits 75 = .ok (.iconst 1, 1) := by decide +kernel
theorem dX8_splits_76 : decode cX8_splits 76 = .ok (.istore 8, 2) := by decide +kernel
theorem dX8_splits_78 : decode cX8_splits 78 = .ok (.iload 8, 2) := by decide +kernel
theorem dX8_splits_80 : decode cX8_splits 80 = .ok (.iconst 5, 1) := by decide +kernel
theorem dX8_splits_81 : decode cX8_splits 81 = .ok (.if_icmp .ge 39, 3) := by decide +kernel
theorem dX8_splits_84 : decode cX8_splits 84 = .ok (.aload_n 0, 1) := by decide +kernel
theorem dX8_splits_85 : decode cX8_splits 85 = .ok (.iload 8, 2) := by decide +kernel
theorem dX8_splits_87 : decode cX8_splits 87 = .ok (.iload 7, 2) := by decide +kernel
theorem dX8_splits_89 : decode cX8_splits 89 = .ok (.if_icmp .ge 10, 3) := by decide +kernel
theorem dX8_splits_92 : decode cX8_splits 92 = .ok (.aload_n 0, 1) := by decide +kernel
theorem dX8_splits_93 : decode cX8_splits 93 = .ok (.getfield 28, 3) := by decide +kernel
theorem dX8_splits_96 : decode cX8_splits 96 = .ok (.goto 7, 3) := by decide +kernel
theorem dX8_splits_99 : decode cX8_splits 99 = .ok (.aload_n 0, 1) := by decide +kernel
theorem dX8_splits_100 : decode cX8_splits 100 = .ok (.getfield 31, 3) := by decide +kernel
theorem dX8_splits_103 : decode cX8_splits 103 = .ok (.aload_n 0, 1) := by decide +kernel
theorem dX8_splits_104 : decode cX8_splits 104 = .ok (.getfield 52, 3) := by decide +kernel
theorem dX8_splits_107 : decode cX8_splits 107 = .ok (.iload 8, 2) := by decide +kernel
theorem dX8_splits_109 : decode cX8_splits 109 = .ok (.iaload, 1) := by decide +kernel
theorem dX8_splits_110 : decode cX8_splits 110 = .ok (.iload_n 2, 1) := by decide +kernel
theorem dX8_splits_111 : decode cX8_splits 111 = .ok (.invokevirtual 120, 3) := by decide +kernel
theorem dX8_splits_114 : decode cX8_splits 114 = .ok (.iinc 8 1, 3) := by decide +kernel
theorem dX8_splits_117 : decode cX8_splits 117 = .ok (.goto (-39), 3) := by decide +kernel
theorem dX8_splits_120 : decode cX8_splits 120 = .ok (.aload_n 0, 1) := by decide +kernel
theorem dX8_splits_121 : decode cX8_splits 121 = .ok (.invokevirtual 148, 3) := by decide +kernel
theorem dX8_splits_124 : decode cX8_splits 124 = .ok (.istore 8, 2) := by decide +kernel
theorem dX8_splits_126 : decode cX8_splits 126 = .ok (.aload_n 0, 1) := by decide +kernel
theorem dX8_splits_127 : decode cX8_splits 127 = .ok (.getfield 28, 3) := by decide +kernel
theorem dX8_splits_130 : decode cX8_splits 130 = .ok (.invokestatic 116, 3) := by decide +kernel
theorem dX8_splits_133 : decode cX8_splits 133 = .ok (.aload_n 0, 1) := by decide +kernel
theorem dX8_splits_134 : decode cX8_splits 134 = .ok (.getfield 31, 3) := by decide +kernel
theorem dX8_splits_137 : decode cX8_splits 137 = .ok (.invokestatic 116, 3) := by decide +kernel
theorem dX8_splits_140 : decode cX8_splits 140 = .ok (.iadd, 1) := by decide +kernel
theorem dX8_splits_141 : decode cX8_splits 141 = .ok (.istore 9, 2) := by decide +kernel
theorem dX8_splits_143 : decode cX8_splits 143 = .ok (.iload_n 3, 1) := by decide +kernel
theorem dX8_splits_144 : decode cX8_splits 144 = .ok (.iconst (-1), 1) := by decide +kernel
theorem dX8_splits_145 : decode cX8_splits 145 = .ok (.if_icmp .eq 24, 3) := by decide +kernel
theorem dX8_splits_148 : decode cX8_splits 148 = .ok (.iload 8, 2) := by decide +kernel
theorem dX8_splits_150 : decode cX8_splits 150 = .ok (.iload 4, 2) := by decide +kernel
theorem dX8_splits_152 : decode cX8_splits 152 = .ok (.if_icmp .lt 17, 3) := by decide +kernel
theorem dX8_splits_155 : decode cX8_splits 155 = .ok (.iload 8, 2) := by decide +kernel
theorem dX8_splits_157 : decode cX8_splits 157 = .ok (.iload 4, 2) := by decide +kernel
theorem dX8_splits_159 : decode cX8_splits 159 = .ok (.if_icmp .ne 50, 3) := by decide +kernel
theorem dX8_splits_162 : decode cX8_splits 162 = .ok (.iload 9, 2) := by decide +kernel
theorem dX8_splits_164 : decode cX8_splits 164 = .ok (.iload 5, 2) := by decide +kernel
theorem dX8_splits_166 : decode cX8_splits 166 = .ok (.if_icmp .ge 43, 3) := by decide +kernel
theorem dX8_splits_169 : decode cX8_splits 169 = .ok (.iload 7, 2) := by decide +kernel
theorem dX8_splits_171 : decode cX8_splits 171 = .ok (.istore_n 3, 1) := by decide +kernel
theorem dX8_splits_172 : decode cX8_splits 172 = .ok (.iload 8, 2) := by decide +kernel
theorem dX8_splits_174 : decode cX8_splits 174 = .ok (.istore 4, 2) := by decide +kernel
theorem dX8_splits_176 : decode cX8_splits 176 = .ok (.iload 9, 2) := by decide +kernel
theorem dX8_splits_178 : decode cX8_splits 178 = .ok (.istore 5, 2) := by decide +kernel
theorem dX8_splits_180 : decode cX8_splits 180 = .ok (.iconst 0, 1) := by decide +kernel
theorem dX8_splits_181 : decode cX8_splits 181 = .ok (.istore 10, 2) := by decide +kernel
theorem dX8_splits_183 : decode cX8_splits 183 = .ok (.iload 10, 2) := by decide +kernel
theorem dX8_splits_185 : decode cX8_splits 185 = .ok (.iconst 5, 1) := by decide +kernel
theorem dX8_splits_186 : decode cX8_splits 186 = .ok (.if_icmp .ge 23, 3) := by decide +kernel
theorem dX8_splits_189 : decode cX8_splits 189 = .ok (.aload_n 0, 1) := by decide +kernel
theorem dX8_splits_190 : decode cX8_splits 190 = .ok (.getfield 55, 3) := by decide +kernel
theorem dX8_splits_193 : decode cX8_splits 193 = .ok (.iload 10, 2) := by decide +kernel
theorem dX8_splits_195 : decode cX8_splits 195 = .ok (.aload_n 0, 1) := by decide +kernel
theorem dX8_splits_196 : decode cX8_splits 196 = .ok (.getfield 52, 3) := by decide +kernel
theorem dX8_splits_199 : decode cX8_splits 199 = .ok (.iload 10, 2) := by decide +kernel
theorem dX8_splits_201 : decode cX8_splits 201 = .ok (.iaload, 1) := by decide +kernel
theorem dX8_splits_202 : decode cX8_splits 202 = .ok (.iastore, 1) := by decide +kernel
theorem dX8_splits_203 : decode cX8_splits 203 = .ok (.iinc 10 1, 3) := by decide +kernel
theorem dX8_splits_206 : decode cX8_splits 206 = .ok (.goto (-23), 3) := by decide +kernel
theorem dX8_splits_209 : decode cX8_splits 209 = .ok (.iinc 6 1, 3) := by decide +kernel
theorem dX8_splits_212 : decode cX8_splits 212 = .ok (.goto (-191), 3) := by decide +kernel
theorem dX8_splits_215 : decode cX8_splits 215 = .ok (.aload_n 0, 1) := by decide +kernel
theorem dX8_splits_216 : decode cX8_splits 216 = .ok (.iload_n 2, 1) := by decide +kernel
theorem dX8_splits_217 : decode cX8_splits 217 = .ok (.invokevirtual 152, 3) := by decide +kernel
theorem dX8_splits_220 : decode cX8_splits 220 = .ok (.istore 6, 2) := by decide +kernel
theorem dX8_splits_222 : decode cX8_splits 222 = .ok (.aload_n 0, 1) := by decide +kernel
theorem dX8_splits_223 : decode cX8_splits 223 = .ok (.getfield 7, 3) := by decide +kernel
theorem dX8_splits_226 : decode cX8_splits 226 = .ok (.sipush 199, 3) := by decide +kernel
theorem dX8_splits_229 : decode cX8_splits 229 = .ok (.iload_n 1, 1) := by decide +kernel
theorem dX8_splits_230 : decode cX8_splits 230 = .ok (.iadd, 1) := by decide +kernel
theorem dX8_splits_231 : decode cX8_splits 231 = .ok (.iconst 0, 1) := by decide +kernel
theorem dX8_splits_232 : decode cX8_splits 232 = .ok (.iastore, 1) := by decide +kernel
theorem dX8_splits_233 : decode cX8_splits 233 = .ok (.iconst 0, 1) := by decide +kernel
theorem dX8_splits_234 : decode cX8_splits 234 = .ok (.istore 7, 2) := by decide +kernel
theorem dX8_splits_236 : decode cX8_splits 236 = .ok (.iload 7, 2) := by decide +kernel
theorem dX8_splits_238 : decode cX8_splits 238 = .ok (.iconst 5, 1) := by decide +kernel
theorem dX8_splits_239 : decode cX8_splits 239 = .ok (.if_icmp .ge 42, 3) := by decide +kernel
theorem dX8_splits_242 : decode cX8_splits 242 = .ok (.iload 7, 2) := by decide +kernel
theorem dX8_splits_244 : decode cX8_splits 244 = .ok (.iload_n 3, 1) := by decide +kernel
theorem dX8_splits_245 : decode cX8_splits 245 = .ok (.if_icmp .ge 7, 3) := by decide +kernel
theorem dX8_splits_248 : decode cX8_splits 248 = .ok (.iload_n 1, 1) := by decide +kernel
theorem dX8_splits_249 : decode cX8_splits 249 = .ok (.goto 5, 3) := by decide +kernel
theorem dX8_splits_252 : decode cX8_splits 252 = .ok (.iload 6, 2) := by decide +kernel
theorem dX8_splits_254 : decode cX8_splits 254 = .ok (.istore 8, 2) := by decide +kernel
theorem dX8_splits_256 : decode cX8_splits 256 = .ok (.aload_n 0, 1) := by decide +kernel
theorem dX8_splits_257 : decode cX8_splits 257 = .ok (.iload 8, 2) := by decide +kernel
theorem dX8_splits_259 : decode cX8_splits 259 = .ok (.aload_n 0, 1) := by decide +kernel
theorem dX8_splits_260 : decode cX8_splits 260 = .ok (.iload 8, 2) := by decide +kernel
theorem dX8_splits_262 : decode cX8_splits 262 = .ok (.invokevirtual 85, 3) := by decide +kernel
theorem dX8_splits_265 : decode cX8_splits 265 = .ok (.aload_n 0, 1) := by decide +kernel
theorem dX8_splits_266 : decode cX8_splits 266 = .ok (.getfield 55, 3) := by decide +kernel
theorem dX8_splits_269 : decode cX8_splits 269 = .ok (.iload 7, 2) := by decide +kernel
theorem dX8_splits_271 : decode cX8_splits 271 = .ok (.iaload, 1) := by decide +kernel
theorem dX8_splits_272 : decode cX8_splits 272 = .ok (.invokevirtual 155, 3) := by decide +kernel
theorem dX8_splits_275 : decode cX8_splits 275 = .ok (.iinc 7 1, 3) := by decide +kernel
theorem dX8_splits_278 : decode cX8_splits 278 = .ok (.goto (-42), 3) := by decide +kernel
theorem dX8_splits_281 : decode cX8_splits 281 = .ok (.aload_n 0, 1) := by decide +kernel
theorem dX8_splits_282 : decode cX8_splits 282 = .ok (.getfield 7, 3) := by decide +kernel
theorem dX8_splits_285 : decode cX8_splits 285 = .ok (.iconst 2, 1) := by decide +kernel
theorem dX8_splits_286 : decode cX8_splits 286 = .ok (.dup2, 1) := by decide +kernel
theorem dX8_splits_287 : decode cX8_splits 287 = .ok (.iaload, 1) := by decide +kernel
theorem dX8_splits_288 : decode cX8_splits 288 = .ok (.iconst 1, 1) := by decide +kernel
theorem dX8_splits_289 : decode cX8_splits 289 = .ok (.iadd, 1) := by decide +kernel
theorem dX8_splits_290 : decode cX8_splits 290 = .ok (.iastore, 1) := by decide +kernel
theorem dX8_splits_291 : decode cX8_splits 291 = .ok (.iload 6, 2) := by decide +kernel
theorem dX8_splits_293 : decode cX8_splits 293 = .ok (.ireturn, 1) := by decide +kernel
theorem dX8_comes_0 : decode cX8_comes 0 = .ok (.aload_n 0, 1) := by decide +kernel
theorem dX8_comes_1 : decode cX8_comes 1 = .ok (.invokevirtual 126, 3) := by decide +kernel
theorem dX8_comes_4 : decode cX8_comes 4 = .ok (.iconst 0, 1) := by decide +kernel
theorem dX8_comes_5 : decode cX8_comes 5 = .ok (.istore_n 3, 1) := by decide +kernel
theorem dX8_comes_6 : decode cX8_comes 6 = .ok (.aload_n 0, 1) := by decide +kernel
theorem dX8_comes_7 : decode cX8_comes 7 = .ok (.getfield 7, 3) := by decide +kernel
theorem dX8_comes_10 : decode cX8_comes 10 = .ok (.iconst 0, 1) := by decide +kernel
theorem dX8_comes_11 : decode cX8_comes 11 = .ok (.iaload, 1) := by decide +kernel
theorem dX8_comes_12 : decode cX8_comes 12 = .ok (.istore 4, 2) := by decide +kernel
theorem dX8_comes_14 : decode cX8_comes 14 = .ok (.aload_n 0, 1) := by decide +kernel
theorem dX8_comes_15 : decode cX8_comes 15 = .ok (.iload 4, 2) := by decide +kernel
theorem dX8_comes_17 : decode cX8_comes 17 = .ok (.invokevirtual 81, 3) := by decide +kernel
theorem dX8_comes_20 : decode cX8_comes 20 = .ok (.iload_n 2, 1) := by decide +kernel
theorem dX8_comes_21 : decode cX8_comes 21 = .ok (.if_icmp .le 27, 3) := by decide +kernel
theorem dX8_comes_24 : decode cX8_comes 24 = .ok (.aload_n 0, 1) := by decide +kernel
theorem dX8_comes_25 : decode cX8_comes 25 = .ok (.getfield 58, 3) := by decide +kernel
theorem dX8_comes_28 : decode cX8_comes 28 = .ok (.iload_n 3, 1) := by decide +kernel
theorem dX8_comes_29 : decode cX8_comes 29 = .ok (.iload 4, 2) := by decide +kernel
theorem dX8_comes_31 : decode cX8_comes 31 = .ok (.iastore, 1) := by decide +kernel
theorem dX8_comes_32 : decode cX8_comes 32 = .ok (.iinc 3 1, 3) := by decide +kernel
theorem dX8_comes_35 : decode cX8_comes 35 = .ok (.aload_n 0, 1) := by decide +kernel
theorem dX8_comes_36 : decode cX8_comes 36 = .ok (.iload 4, 2) := by decide +kernel
theorem dX8_comes_38 : decode cX8_comes 38 = .ok (.iload_n 1, 1) := by decide +kernel
theorem dX8_comes_39 : decode cX8_comes 39 = .ok (.iload_n 2, 1) := by decide +kernel
theorem dX8_comes_40 : decode cX8_comes 40 = .ok (.invokevirtual 159, 3) := by decide +kernel
theorem dX8_comes_43 : decode cX8_comes 43 = .ok (.istore 4, 2) := by decide +kernel
theorem dX8_comes_45 : decode cX8_comes 45 = .ok (.goto (-31), 3) := by decide +kernel
theorem dX8_comes_48 : decode cX8_comes 48 = .ok (.aload_n 0, 1) := by decide +kernel
theorem dX8_comes_49 : decode cX8_comes 49 = .ok (.iload 4, 2) := by decide +kernel
theorem dX8_comes_51 : decode cX8_comes 51 = .ok (.aload_n 0, 1) := by decide +kernel
theorem dX8_comes_52 : decode cX8_comes 52 = .ok (.iload 4, 2) := by decide +kernel
theorem dX8_comes_54 : decode cX8_comes 54 = .ok (.invokevirtual 85, 3) := by decide +kernel
theorem dX8_comes_57 : decode cX8_comes 57 = .ok (.iload_n 1, 1) := by decide +kernel
theorem dX8_comes_58 : decode cX8_comes 58 = .ok (.invokevirtual 155, 3) := by decide +kernel
theorem dX8_comes_61 : decode cX8_comes 61 = .ok (.iconst 1, 1) := by decide +kernel
theorem dX8_comes_62 : decode cX8_comes 62 = .ok (.istore 5, 2) := by decide +kernel
theorem dX8_comes_64 : decode cX8_comes 64 = .ok (.iload 5, 2) := by decide +kernel
theorem dX8_comes_66 : decode cX8_comes 66 = .ok (.ifCond .eq 153, 3) := by decide +kernel
theorem dX8_comes_69 : decode cX8_comes 69 = .ok (.aload_n 0, 1) := by decide +kernel
theorem dX8_comes_70 : decode cX8_comes 70 = .ok (.iload 4, 2) := by decide +kernel
theorem dX8_comes_72 : decode cX8_comes 72 = .ok (.invokevirtual 85, 3) := by decide +kernel
theorem dX8_comes_75 : decode cX8_comes 75 = .ok (.iconst 5, 1) := by decide +kernel
theorem dX8_comes_76 : decode cX8_comes 76 = .ok (.if_icmp .ne 143, 3) := by decide +kernel
theorem dX8_comes_79 : decode cX8_comes 79 = .ok (.iload 4, 2) := by decide +kernel
theorem dX8_comes_81 : decode cX8_comes 81 = .ok (.aload_n 0, 1) := by decide +kernel
theorem dX8_comes_82 : decode cX8_comes 82 = .ok (.getfield 7, 3) := by decide +kernel
theorem dX8_comes_85 : decode cX8_comes 85 = .ok (.iconst 0, 1) := by decide +kernel
theorem dX8_comes_86 : decode cX8_comes 86 = .ok (.iaload, 1) := by decide +kernel
theorem dX8_comes_87 : decode cX8_comes 87 = .ok (.if_icmp .eq 31, 3) := by decide +kernel
theorem dX8_comes_90 : decode cX8_comes 90 = .ok (.aload_n 0, 1) := by decide +kernel
theorem dX8_comes_91 : decode cX8_comes 91 = .ok (.getfield 132, 3) := by decide +kernel
theorem dX8_comes_94 : decode cX8_comes 94 = .ok (.aload_n 0, 1) := by decide +kernel
theorem dX8_comes_95 : decode cX8_comes 95 = .ok (.iload 4, 2) := by decide +kernel
theorem dX8_comes_97 : decode cX8_comes 97 = .ok (.invokevirtual 81, 3) := by decide +kernel
theorem dX8_comes_100 : decode cX8_comes 100 = .ok (.ishr, 1) := by decide +kernel
theorem dX8_comes_101 : decode cX8_comes 101 = .ok (.iconst 1, 1) := by decide +kernel
theorem dX8_comes_102 : decode cX8_comes 102 = .ok (.iand, 1) := by decide +kernel
theorem dX8_comes_103 : decode cX8_comes 103 = .ok (.ifCond .ne 15, 3) := by decide +kernel
theorem dX8_comes_106 : decode cX8_comes 106 = .ok (.aload_n 0, 1) := by decide +kernel
theorem dX8_comes_107 : decode cX8_comes 107 = .ok (.iload 4, 2) := by decide +kernel
theorem dX8_comes_109 : decode cX8_comes 109 = .ok (.invokevirtual 162, 3) := by decide +kernel
theorem dX8_comes_112 : decode cX8_comes 112 = .ok (.iconst 0, 1) := by decide +kernel
theorem dX8_comes_113 : decode cX8_comes 113 = .ok (.istore 5, 2) := by decide +kernel
theorem dX8_comes_115 : decode cX8_comes 115 = .ok (.goto (-51), 3) := by decide +kernel
theorem dX8_comes_118 : decode cX8_comes 118 = .ok (.aload_n 0, 1) := by decide +kernel
theorem dX8_comes_119 : decode cX8_comes 119 = .ok (.iload 4, 2) := by decide +kernel
theorem dX8_comes_121 : decode cX8_comes 121 = .ok (.invokevirtual 165, 3) := by decide +kernel
theorem dX8_comes_124 : decode cX8_comes 124 = .ok (.istore 6, 2) := by decide +kernel
theorem dX8_comes_126 : decode cX8_comes 126 = .ok (.iload 4, 2) := by decide +kernel
theorem dX8_comes_128 : decode cX8_comes 128 = .ok (.aload_n 0, 1) := by decide +kernel
theorem dX8_comes_129 : decode cX8_comes 129 = .ok (.getfield 7, 3) := by decide +kernel
theorem dX8_comes_132 : decode cX8_comes 132 = .ok (.iconst 0, 1) := by decide +kernel
theorem dX8_comes_133 : decode cX8_comes 133 = .ok (.iaload, 1) := by decide +kernel
theorem dX8_comes_134 : decode cX8_comes 134 = .ok (.if_icmp .ne 49, 3) := by decide +kernel
theorem dX8_comes_137 : decode cX8_comes 137 = .ok (.aload_n 0, 1) := by decide +kernel
theorem dX8_comes_138 : decode cX8_comes 138 = .ok (.aload_n 0, 1) := by decide +kernel
theorem dX8_comes_139 : decode cX8_comes 139 = .ok (.iload 4, 2) := by decide +kernel
theorem dX8_comes_141 : decode cX8_comes 141 = .ok (.invokevirtual 81, 3) := by decide +kernel
theorem dX8_comes_144 : decode cX8_comes 144 = .ok (.iconst 1, 1) := by decide +kernel
theorem dX8_comes_145 : decode cX8_comes 145 = .ok (.iadd, 1) := by decide +kernel
theorem dX8_comes_146 : decode cX8_comes 146 = .ok (.invokevirtual 152, 3) := by decide +kernel
theorem dX8_comes_149 : decode cX8_comes 149 = .ok (.istore 7, 2) := by decide +kernel
theorem dX8_comes_151 : decode cX8_comes 151 = .ok (.aload_n 0, 1) := by decide +kernel
theorem dX8_comes_152 : decode cX8_comes 152 = .ok (.iload 7, 2) := by decide +kernel
theorem dX8_comes_154 : decode cX8_comes 154 = .ok (.iconst 0, 1) := by decide +kernel
theorem dX8_comes_155 : decode cX8_comes 155 = .ok (.iload 4, 2) := by decide +kernel
theorem dX8_comes_157 : decode cX8_comes 157 = .ok (.invokevirtual 155, 3) := by decide +kernel
theorem dX8_comes_160 : decode cX8_comes 160 = .ok (.aload_n 0, 1) := by decide +kernel
theorem dX8_comes_161 : decode cX8_comes 161 = .ok (.iload 7, 2) := by decide +kernel
theorem dX8_comes_163 : decode cX8_comes 163 = .ok (.iconst 1, 1) := by decide +kernel
theorem dX8_comes_164 : decode cX8_comes 164 = .ok (.iload 6, 2) := by decide +kernel
theorem dX8_comes_166 : decode cX8_comes 166 = .ok (.invokevirtual 155, 3) := by decide +kernel
theorem dX8_comes_169 : decode cX8_comes 169 = .ok (.aload_n 0, 1) := by decide +kernel
theorem dX8_comes_170 : decode cX8_comes 170 = .ok (.getfield 7, 3) := by decide +kernel
theorem dX8_comes_173 : decode cX8_comes 173 = .ok (.iconst 0, 1) := by decide +kernel
theorem dX8_comes_174 : decode cX8_comes 174 = .ok (.iload 7, 2) := by decide +kernel
theorem dX8_comes_176 : decode cX8_comes 176 = .ok (.iastore, 1) := by decide +kernel
theorem dX8_comes_177 : decode cX8_comes 177 = .ok (.iconst 0, 1) := by decide +kernel
theorem dX8_comes_178 : decode cX8_comes 178 = .ok (.istore 5, 2) := by decide +kernel
theorem dX8_comes_180 : decode cX8_comes 180 = .ok (.goto 36, 3) := by decide +kernel
theorem dX8_comes_183 : decode cX8_comes 183 = .ok (.iinc 3 (-1), 3) := by decide +kernel
theorem dX8_comes_186 : decode cX8_comes 186 = .ok (.aload_n 0, 1) := by decide +kernel
theorem dX8_comes_187 : decode cX8_comes 187 = .ok (.getfield 58, 3) := by decide +kernel
theorem dX8_comes_190 : decode cX8_comes 190 = .ok (.iload_n 3, 1) := by decide +kernel
theorem dX8_comes_191 : decode cX8_comes 191 = .ok (.iaload, 1) := by decide +kernel
theorem dX8_comes_192 : decode cX8_comes 192 = .ok (.istore 7, 2) := by decide +kernel
theorem dX8_comes_194 : decode cX8_comes 194 = .ok (.aload_n 0, 1) := by decide +kernel
theorem dX8_comes_195 : decode cX8_comes 195 = .ok (.iload 7, 2) := by decide +kernel
theorem dX8_comes_197 : decode cX8_comes 197 = .ok (.aload_n 0, 1) := by decide +kernel
theorem dX8_comes_198 : decode cX8_comes 198 = .ok (.iload 7, 2) := by decide +kernel
theorem dX8_comes_200 : decode cX8_comes 200 = .ok (.iload 4, 2) := by decide +kernel
theorem dX8_comes_202 : decode cX8_comes 202 = .ok (.invokevirtual 106, 3) := by decide +kernel
theorem dX8_comes_205 : decode cX8_comes 205 = .ok (.iconst 1, 1) := by decide +kernel
theorem dX8_comes_206 : decode cX8_comes 206 = .ok (.iadd, 1) := by decide +kernel
theorem dX8_comes_207 : decode cX8_comes 207 = .ok (.iload 6, 2) := by decide +kernel
theorem dX8_comes_209 : decode cX8_comes 209 = .ok (.invokevirtual 155, 3) := by decide +kernel
theorem dX8_comes_212 : decode cX8_comes 212 = .ok (.iload 7, 2) := by decide +kernel
theorem dX8_comes_214 : decode cX8_comes 214 = .ok (.istore 4, 2) := by decide +kernel
theorem dX8_comes_216 : decode cX8_comes 216 = .ok (.goto (-152), 3) := by decide +kernel
theorem dX8_comes_219 : decode cX8_comes 219 = .ok (.return_, 1) := by decide +kernel
theorem dX8_insertion_0 : decode cX8_insertion 0 = .ok (.aload_n 0, 1) := by decide +kernel
theorem dX8_insertion_1 : decode cX8_insertion 1 = .ok (.iconst 0, 1) := by decide +kernel
theorem dX8_insertion_2 : decode cX8_insertion 2 = .ok (.putfield 132, 3) := by decide +kernel
theorem dX8_insertion_5 : decode cX8_insertion 5 = .ok (.aload_n 0, 1) := by decide +kernel
theorem dX8_insertion_6 : decode cX8_insertion 6 = .ok (.iconst 0, 1) := by decide +kernel
theorem dX8_insertion_7 : decode cX8_insertion 7 = .ok (.putfield 109, 3) := by decide +kernel
theorem dX8_insertion_10 : decode cX8_insertion 10 = .ok (.aload_n 0, 1) := by decide +kernel
theorem dX8_insertion_11 : decode cX8_insertion 11 = .ok (.iload_n 1, 1) := by decide +kernel
theorem dX8_insertion_12 : decode cX8_insertion 12 = .ok (.iload_n 2, 1) := by decide +kernel
theorem dX8_insertion_13 : decode cX8_insertion 13 = .ok (.invokevirtual 142, 3) := by decide +kernel
theorem dX8_insertion_16 : decode cX8_insertion 16 = .ok (.aload_n 0, 1) := by decide +kernel
theorem dX8_insertion_17 : decode cX8_insertion 17 = .ok (.getfield 109, 3) := by decide +kernel
theorem dX8_insertion_20 : decode cX8_insertion 20 = .ok (.ifCond .le 38, 3) := by decide +kernel
theorem dX8_insertion_23 : decode cX8_insertion 23 = .ok (.aload_n 0, 1) := by decide +kernel
theorem dX8_insertion_24 : decode cX8_insertion 24 = .ok (.dup, 1) := by decide +kernel
theorem dX8_insertion_25 : decode cX8_insertion 25 = .ok (.getfield 109, 3) := by decide +kernel
theorem dX8_insertion_28 : decode cX8_insertion 28 = .ok (.iconst 1, 1) := by decide +kernel
theorem dX8_insertion_29 : decode cX8_insertion 29 = .ok (.isub, 1) := by decide +kernel
theorem dX8_insertion_30 : decode cX8_insertion 30 = .ok (.putfield 109, 3) := by decide +kernel
theorem dX8_insertion_33 : decode cX8_insertion 33 = .ok (.aload_n 0, 1) := by decide +kernel
theorem dX8_insertion_34 : decode cX8_insertion 34 = .ok (.aload_n 0, 1) := by decide +kernel
theorem dX8_insertion_35 : decode cX8_insertion 35 = .ok (.getfield 34, 3) := by decide +kernel
theorem dX8_insertion_38 : decode cX8_insertion 38 = .ok (.aload_n 0, 1) := by decide +kernel
theorem dX8_insertion_39 : decode cX8_insertion 39 = .ok (.getfield 109, 3) := by decide +kernel
theorem dX8_insertion_42 : decode cX8_insertion 42 = .ok (.iaload, 1) := by decide +kernel
theorem dX8_insertion_43 : decode cX8_insertion 43 = .ok (.aload_n 0, 1) := by decide +kernel
theorem dX8_insertion_44 : decode cX8_insertion 44 = .ok (.getfield 37, 3) := by decide +kernel
theorem dX8_insertion_47 : decode cX8_insertion 47 = .ok (.aload_n 0, 1) := by decide +kernel
theorem dX8_insertion_48 : decode cX8_insertion 48 = .ok (.getfield 109, 3) := by decide +kernel
theorem dX8_insertion_51 : decode cX8_insertion 51 = .ok (.iaload, 1) := by decide +kernel
theorem dX8_insertion_52 : decode cX8_insertion 52 = .ok (.invokevirtual 168, 3) := by decide +kernel
theorem dX8_insertion_55 : decode cX8_insertion 55 = .ok (.goto (-39), 3) := by decide +kernel
theorem dX8_insertion_58 : decode cX8_insertion 58 = .ok (.return_, 1) := by decide +kernel
theorem dX8_levels_0 : decode cX8_levels 0 = .ok (.aload_n 0, 1) := by decide +kernel
theorem dX8_levels_1 : decode cX8_levels 1 = .ok (.aload_n 0, 1) := by decide +kernel
theorem dX8_levels_2 : decode cX8_levels 2 = .ok (.getfield 7, 3) := by decide +kernel
theorem dX8_levels_5 : decode cX8_levels 5 = .ok (.iconst 0, 1) := by decide +kernel
theorem dX8_levels_6 : decode cX8_levels 6 = .ok (.iaload, 1) := by decide +kernel
theorem dX8_levels_7 : decode cX8_levels 7 = .ok (.invokevirtual 81, 3) := by decide +kernel
theorem dX8_levels_10 : decode cX8_levels 10 = .ok (.iconst 1, 1) := by decide +kernel
theorem dX8_levels_11 : decode cX8_levels 11 = .ok (.iadd, 1) := by decide +kernel
theorem dX8_levels_12 : decode cX8_levels 12 = .ok (.ireturn, 1) := by decide +kernel
theorem dX8_putsBox_0 : decode cX8_putsBox 0 = .ok (.aload_n 0, 1) := by decide +kernel
theorem dX8_putsBox_1 : decode cX8_putsBox 1 = .ok (.getfield 7, 3) := by decide +kernel
theorem dX8_putsBox_4 : decode cX8_putsBox 4 = .ok (.iconst 4, 1) := by decide +kernel
theorem dX8_putsBox_5 : decode cX8_putsBox 5 = .ok (.iload_n 1, 1) := by decide +kernel
theorem dX8_putsBox_6 : decode cX8_putsBox 6 = .ok (.iadd, 1) := by decide +kernel
theorem dX8_putsBox_7 : decode cX8_putsBox 7 = .ok (.iconst 1, 1) := by decide +kernel
theorem dX8_putsBox_8 : decode cX8_putsBox 8 = .ok (.iastore, 1) := by decide +kernel
theorem dX8_putsBox_9 : decode cX8_putsBox 9 = .ok (.aload_n 0, 1) := by decide +kernel
theorem dX8_putsBox_10 : decode cX8_putsBox 10 = .ok (.getfield 7, 3) := by decide +kernel
theorem dX8_putsBox_13 : decode cX8_putsBox 13 = .ok (.bipush 35, 2) := by decide +kernel
theorem dX8_putsBox_15 : decode cX8_putsBox 15 = .ok (.iconst 4, 1) := by decide +kernel
theorem dX8_putsBox_16 : decode cX8_putsBox 16 = .ok (.iload_n 1, 1) := by decide +kernel
theorem dX8_putsBox_17 : decode cX8_putsBox 17 = .ok (.imul, 1) := by decide +kernel
theorem dX8_putsBox_18 : decode cX8_putsBox 18 = .ok (.iadd, 1) := by decide +kernel
theorem dX8_putsBox_19 : decode cX8_putsBox 19 = .ok (.iload_n 2, 1) := by decide +kernel
theorem dX8_putsBox_20 : decode cX8_putsBox 20 = .ok (.iastore, 1) := by decide +kernel
theorem dX8_putsBox_21 : decode cX8_putsBox 21 = .ok (.aload_n 0, 1) := by decide +kernel
theorem dX8_putsBox_22 : decode cX8_putsBox 22 = .ok (.getfield 7, 3) := by decide +kernel
theorem dX8_putsBox_25 : decode cX8_putsBox 25 = .ok (.bipush 35, 2) := by decide +kernel
theorem dX8_putsBox_27 : decode cX8_putsBox 27 = .ok (.iconst 4, 1) := by decide +kernel
theorem dX8_putsBox_28 : decode cX8_putsBox 28 = .ok (.iload_n 1, 1) := by decide +kernel
theorem dX8_putsBox_29 : decode cX8_putsBox 29 = .ok (.imul, 1) := by decide +kernel
theorem dX8_putsBox_30 : decode cX8_putsBox 30 = .ok (.iadd, 1) := by decide +kernel
theorem dX8_putsBox_31 : decode cX8_putsBox 31 = .ok (.iconst 1, 1) := by decide +kernel
theorem dX8_putsBox_32 : decode cX8_putsBox 32 = .ok (.iadd, 1) := by decide +kernel
theorem dX8_putsBox_33 : decode cX8_putsBox 33 = .ok (.iload_n 3, 1) := by decide +kernel
theorem dX8_putsBox_34 : decode cX8_putsBox 34 = .ok (.iastore, 1) := by decide +kernel
theorem dX8_putsBox_35 : decode cX8_putsBox 35 = .ok (.aload_n 0, 1) := by decide +kernel
theorem dX8_putsBox_36 : decode cX8_putsBox 36 = .ok (.getfield 7, 3) := by decide +kernel
theorem dX8_putsBox_39 : decode cX8_putsBox 39 = .ok (.bipush 35, 2) := by decide +kernel
theorem dX8_putsBox_41 : decode cX8_putsBox 41 = .ok (.iconst 4, 1) := by decide +kernel
theorem dX8_putsBox_42 : decode cX8_putsBox 42 = .ok (.iload_n 1, 1) := by decide +kernel
theorem dX8_putsBox_43 : decode cX8_putsBox 43 = .ok (.imul, 1) := by decide +kernel
theorem dX8_putsBox_44 : decode cX8_putsBox 44 = .ok (.iadd, 1) := by decide +kernel
theorem dX8_putsBox_45 : decode cX8_putsBox 45 = .ok (.iconst 2, 1) := by decide +kernel
theorem dX8_putsBox_46 : decode cX8_putsBox 46 = .ok (.iadd, 1) := by decide +kernel
theorem dX8_putsBox_47 : decode cX8_putsBox 47 = .ok (.iload 4, 2) := by decide +kernel
theorem dX8_putsBox_49 : decode cX8_putsBox 49 = .ok (.iastore, 1) := by decide +kernel
theorem dX8_putsBox_50 : decode cX8_putsBox 50 = .ok (.aload_n 0, 1) := by decide +kernel
theorem dX8_putsBox_51 : decode cX8_putsBox 51 = .ok (.getfield 7, 3) := by decide +kernel
theorem dX8_putsBox_54 : decode cX8_putsBox 54 = .ok (.bipush 35, 2) := by decide +kernel
theorem dX8_putsBox_56 : decode cX8_putsBox 56 = .ok (.iconst 4, 1) := by decide +kernel
theorem dX8_putsBox_57 : decode cX8_putsBox 57 = .ok (.iload_n 1, 1) := by decide +kernel
theorem dX8_putsBox_58 : decode cX8_putsBox 58 = .ok (.imul, 1) := by decide +kernel
theorem dX8_putsBox_59 : decode cX8_putsBox 59 = .ok (.iadd, 1) := by decide +kernel
theorem dX8_putsBox_60 : decode cX8_putsBox 60 = .ok (.iconst 3, 1) := by decide +kernel
theorem dX8_putsBox_61 : decode cX8_putsBox 61 = .ok (.iadd, 1) := by decide +kernel
theorem dX8_putsBox_62 : decode cX8_putsBox 62 = .ok (.iload 5, 2) := by decide +kernel
theorem dX8_putsBox_64 : decode cX8_putsBox 64 = .ok (.iastore, 1) := by decide +kernel
theorem dX8_putsBox_65 : decode cX8_putsBox 65 = .ok (.aload_n 0, 1) := by decide +kernel
theorem dX8_putsBox_66 : decode cX8_putsBox 66 = .ok (.iconst 0, 1) := by decide +kernel
theorem dX8_putsBox_67 : decode cX8_putsBox 67 = .ok (.putfield 135, 3) := by decide +kernel
theorem dX8_putsBox_70 : decode cX8_putsBox 70 = .ok (.aload_n 0, 1) := by decide +kernel
theorem dX8_putsBox_71 : decode cX8_putsBox 71 = .ok (.iload_n 1, 1) := by decide +kernel
theorem dX8_putsBox_72 : decode cX8_putsBox 72 = .ok (.iconst 0, 1) := by decide +kernel
theorem dX8_putsBox_73 : decode cX8_putsBox 73 = .ok (.invokevirtual 171, 3) := by decide +kernel
theorem dX8_putsBox_76 : decode cX8_putsBox 76 = .ok (.return_, 1) := by decide +kernel
theorem dX8_takesBox_0 : decode cX8_takesBox 0 = .ok (.aload_n 0, 1) := by decide +kernel
theorem dX8_takesBox_1 : decode cX8_takesBox 1 = .ok (.iconst 0, 1) := by decide +kernel
theorem dX8_takesBox_2 : decode cX8_takesBox 2 = .ok (.putfield 135, 3) := by decide +kernel
theorem dX8_takesBox_5 : decode cX8_takesBox 5 = .ok (.aload_n 0, 1) := by decide +kernel
theorem dX8_takesBox_6 : decode cX8_takesBox 6 = .ok (.iload_n 1, 1) := by decide +kernel
theorem dX8_takesBox_7 : decode cX8_takesBox 7 = .ok (.iconst 0, 1) := by decide +kernel
theorem dX8_takesBox_8 : decode cX8_takesBox 8 = .ok (.invokevirtual 174, 3) := by decide +kernel
theorem dX8_takesBox_11 : decode cX8_takesBox 11 = .ok (.istore_n 2, 1) := by decide +kernel
theorem dX8_takesBox_12 : decode cX8_takesBox 12 = .ok (.aload_n 0, 1) := by decide +kernel
theorem dX8_takesBox_13 : decode cX8_takesBox 13 = .ok (.iload_n 2, 1) := by decide +kernel
theorem dX8_takesBox_14 : decode cX8_takesBox 14 = .ok (.aload_n 0, 1) := by decide +kernel
theorem dX8_takesBox_15 : decode cX8_takesBox 15 = .ok (.iload_n 2, 1) := by decide +kernel
theorem dX8_takesBox_16 : decode cX8_takesBox 16 = .ok (.iload_n 1, 1) := by decide +kernel
theorem dX8_takesBox_17 : decode cX8_takesBox 17 = .ok (.invokevirtual 106, 3) := by decide +kernel
theorem dX8_takesBox_20 : decode cX8_takesBox 20 = .ok (.invokevirtual 138, 3) := by decide +kernel
theorem dX8_takesBox_23 : decode cX8_takesBox 23 = .ok (.aload_n 0, 1) := by decide +kernel
theorem dX8_takesBox_24 : decode cX8_takesBox 24 = .ok (.getfield 7, 3) := by decide +kernel
theorem dX8_takesBox_27 : decode cX8_takesBox 27 = .ok (.iconst 4, 1) := by decide +kernel
theorem dX8_takesBox_28 : decode cX8_takesBox 28 = .ok (.iload_n 1, 1) := by decide +kernel
theorem dX8_takesBox_29 : decode cX8_takesBox 29 = .ok (.iadd, 1) := by decide +kernel
theorem dX8_takesBox_30 : decode cX8_takesBox 30 = .ok (.iconst 0, 1) := by decide +kernel
theorem dX8_takesBox_31 : decode cX8_takesBox 31 = .ok (.iastore, 1) := by decide +kernel
theorem dX8_takesBox_32 : decode cX8_takesBox 32 = .ok (.aload_n 0, 1) := by decide +kernel
theorem dX8_takesBox_33 : decode cX8_takesBox 33 = .ok (.getfield 7, 3) := by decide +kernel
theorem dX8_takesBox_36 : decode cX8_takesBox 36 = .ok (.iconst 0, 1) := by decide +kernel
theorem dX8_takesBox_37 : decode cX8_takesBox 37 = .ok (.iaload, 1) := by decide +kernel
theorem dX8_takesBox_38 : decode cX8_takesBox 38 = .ok (.istore_n 3, 1) := by decide +kernel
theorem dX8_takesBox_39 : decode cX8_takesBox 39 = .ok (.aload_n 0, 1) := by decide +kernel
theorem dX8_takesBox_40 : decode cX8_takesBox 40 = .ok (.iload_n 3, 1) := by decide +kernel
theorem dX8_takesBox_41 : decode cX8_takesBox 41 = .ok (.invokevirtual 81, 3) := by decide +kernel
theorem dX8_takesBox_44 : decode cX8_takesBox 44 = .ok (.istore 4, 2) := by decide +kernel
theorem dX8_takesBox_46 : decode cX8_takesBox 46 = .ok (.iconst 0, 1) := by decide +kernel
theorem dX8_takesBox_47 : decode cX8_takesBox 47 = .ok (.istore 5, 2) := by decide +kernel
theorem dX8_takesBox_49 : decode cX8_takesBox 49 = .ok (.iload 5, 2) := by decide +kernel
theorem dX8_takesBox_51 : decode cX8_takesBox 51 = .ok (.iload 4, 2) := by decide +kernel
theorem dX8_takesBox_53 : decode cX8_takesBox 53 = .ok (.if_icmp .gt 17, 3) := by decide +kernel
theorem dX8_takesBox_56 : decode cX8_takesBox 56 = .ok (.aload_n 0, 1) := by decide +kernel
theorem dX8_takesBox_57 : decode cX8_takesBox 57 = .ok (.getfield 61, 3) := by decide +kernel
theorem dX8_takesBox_60 : decode cX8_takesBox 60 = .ok (.iload 5, 2) := by decide +kernel
theorem dX8_takesBox_62 : decode cX8_takesBox 62 = .ok (.iconst (-1), 1) := by decide +kernel
theorem dX8_takesBox_63 : decode cX8_takesBox 63 = .ok (.iastore, 1) := by decide +kernel
theorem dX8_takesBox_64 : decode cX8_takesBox 64 = .ok (.iinc 5 1, 3) := by decide +kernel
theorem dX8_takesBox_67 : decode cX8_takesBox 67 = .ok (.goto (-18), 3) := by decide +kernel
theorem dX8_takesBox_70 : decode cX8_takesBox 70 = .ok (.iload_n 2, 1) := by decide +kernel
theorem dX8_takesBox_71 : decode cX8_takesBox 71 = .ok (.iload_n 3, 1) := by decide +kernel
theorem dX8_takesBox_72 : decode cX8_takesBox 72 = .ok (.if_icmp .eq 100, 3) := by decide +kernel
theorem dX8_takesBox_75 : decode cX8_takesBox 75 = .ok (.aload_n 0, 1) := by decide +kernel
theorem dX8_takesBox_76 : decode cX8_takesBox 76 = .ok (.iload_n 2, 1) := by decide +kernel
theorem dX8_takesBox_77 : decode cX8_takesBox 77 = .ok (.invokevirtual 81, 3) := by decide +kernel
theorem dX8_takesBox_80 : decode cX8_takesBox 80 = .ok (.istore 5, 2) := by decide +kernel
theorem dX8_takesBox_82 : decode cX8_takesBox 82 = .ok (.aload_n 0, 1) := by decide +kernel
theorem dX8_takesBox_83 : decode cX8_takesBox 83 = .ok (.iload_n 2, 1) := by decide +kernel
theorem dX8_takesBox_84 : decode cX8_takesBox 84 = .ok (.iload 5, 2) := by decide +kernel
theorem dX8_takesBox_86 : decode cX8_takesBox 86 = .ok (.iconst 1, 1) := by decide +kernel
theorem dX8_takesBox_87 : decode cX8_takesBox 87 = .ok (.iadd, 1) := by decide +kernel
theorem dX8_takesBox_88 : decode cX8_takesBox 88 = .ok (.invokevirtual 174, 3) := by decide +kernel
theorem dX8_takesBox_91 : decode cX8_takesBox 91 = .ok (.istore 6, 2) := by decide +kernel
theorem dX8_takesBox_93 : decode cX8_takesBox 93 = .ok (.aload_n 0, 1) := by decide +kernel
theorem dX8_takesBox_94 : decode cX8_takesBox 94 = .ok (.iload_n 2, 1) := by decide +kernel
theorem dX8_takesBox_95 : decode cX8_takesBox 95 = .ok (.invokevirtual 85, 3) := by decide +kernel
theorem dX8_takesBox_98 : decode cX8_takesBox 98 = .ok (.iconst 2, 1) := by decide +kernel
theorem dX8_takesBox_99 : decode cX8_takesBox 99 = .ok (.if_icmp .ge 67, 3) := by decide +kernel
theorem dX8_takesBox_102 : decode cX8_takesBox 102 = .ok (.aload_n 0, 1) := by decide +kernel
theorem dX8_takesBox_103 : decode cX8_takesBox 103 = .ok (.getfield 61, 3) := by decide +kernel
theorem dX8_takesBox_106 : decode cX8_takesBox 106 = .ok (.iload 5, 2) := by decide +kernel
theorem dX8_takesBox_108 : decode cX8_takesBox 108 = .ok (.aload_n 0, 1) := by decide +kernel
theorem dX8_takesBox_109 : decode cX8_takesBox 109 = .ok (.iload_n 2, 1) := by decide +kernel
theorem dX8_takesBox_110 : decode cX8_takesBox 110 = .ok (.invokevirtual 85, 3) := by decide +kernel
theorem dX8_takesBox_113 : decode cX8_takesBox 113 = .ok (.iconst 1, 1) := by decide +kernel
theorem dX8_takesBox_114 : decode cX8_takesBox 114 = .ok (.if_icmp .ne 12, 3) := by decide +kernel
theorem dX8_takesBox_117 : decode cX8_takesBox 117 = .ok (.aload_n 0, 1) := by decide +kernel
theorem dX8_takesBox_118 : decode cX8_takesBox 118 = .ok (.iload_n 2, 1) := by decide +kernel
theorem dX8_takesBox_119 : decode cX8_takesBox 119 = .ok (.iconst 0, 1) := by decide +kernel
theorem dX8_takesBox_120 : decode cX8_takesBox 120 = .ok (.invokevirtual 88, 3) := by decide +kernel
theorem dX8_takesBox_123 : decode cX8_takesBox 123 = .ok (.goto 4, 3) := by decide +kernel
theorem dX8_takesBox_126 : decode cX8_takesBox 126 = .ok (.iconst (-1), 1) := by decide +kernel
theorem dX8_takesBox_127 : decode cX8_takesBox 127 = .ok (.iastore, 1) := by decide +kernel
theorem dX8_takesBox_128 : decode cX8_takesBox 128 = .ok (.aload_n 0, 1) := by decide +kernel
theorem dX8_takesBox_129 : decode cX8_takesBox 129 = .ok (.getfield 7, 3) := by decide +kernel
theorem dX8_takesBox_132 : decode cX8_takesBox 132 = .ok (.iconst 3, 1) := by decide +kernel
theorem dX8_takesBox_133 : decode cX8_takesBox 133 = .ok (.dup2, 1) := by decide +kernel
theorem dX8_takesBox_134 : decode cX8_takesBox 134 = .ok (.iaload, 1) := by decide +kernel
theorem dX8_takesBox_135 : decode cX8_takesBox 135 = .ok (.aload_n 0, 1) := by decide +kernel
theorem dX8_takesBox_136 : decode cX8_takesBox 136 = .ok (.iload_n 2, 1) := by decide +kernel
theorem dX8_takesBox_137 : decode cX8_takesBox 137 = .ok (.invokevirtual 85, 3) := by decide +kernel
theorem dX8_takesBox_140 : decode cX8_takesBox 140 = .ok (.iadd, 1) := by decide +kernel
theorem dX8_takesBox_141 : decode cX8_takesBox 141 = .ok (.iastore, 1) := by decide +kernel
theorem dX8_takesBox_142 : decode cX8_takesBox 142 = .ok (.aload_n 0, 1) := by decide +kernel
theorem dX8_takesBox_143 : decode cX8_takesBox 143 = .ok (.iload 6, 2) := by decide +kernel
theorem dX8_takesBox_145 : decode cX8_takesBox 145 = .ok (.aload_n 0, 1) := by decide +kernel
theorem dX8_takesBox_146 : decode cX8_takesBox 146 = .ok (.iload 6, 2) := by decide +kernel
theorem dX8_takesBox_148 : decode cX8_takesBox 148 = .ok (.iload_n 2, 1) := by decide +kernel
theorem dX8_takesBox_149 : decode cX8_takesBox 149 = .ok (.invokevirtual 106, 3) := by decide +kernel
theorem dX8_takesBox_152 : decode cX8_takesBox 152 = .ok (.invokevirtual 138, 3) := by decide +kernel
theorem dX8_takesBox_155 : decode cX8_takesBox 155 = .ok (.aload_n 0, 1) := by decide +kernel
theorem dX8_takesBox_156 : decode cX8_takesBox 156 = .ok (.getfield 7, 3) := by decide +kernel
theorem dX8_takesBox_159 : decode cX8_takesBox 159 = .ok (.sipush 159, 3) := by decide +kernel
theorem dX8_takesBox_162 : decode cX8_takesBox 162 = .ok (.iload_n 2, 1) := by decide +kernel
theorem dX8_takesBox_163 : decode cX8_takesBox 163 = .ok (.iadd, 1) := by decide +kernel
theorem dX8_takesBox_164 : decode cX8_takesBox 164 = .ok (.iconst (-1), 1) := by decide +kernel
theorem dX8_takesBox_165 : decode cX8_takesBox 165 = .ok (.iastore, 1) := by decide +kernel
theorem dX8_takesBox_166 : decode cX8_takesBox 166 = .ok (.iload 6, 2) := by decide +kernel
theorem dX8_takesBox_168 : decode cX8_takesBox 168 = .ok (.istore_n 2, 1) := by decide +kernel
theorem dX8_takesBox_169 : decode cX8_takesBox 169 = .ok (.goto (-99), 3) := by decide +kernel
theorem dX8_takesBox_172 : decode cX8_takesBox 172 = .ok (.iload 4, 2) := by decide +kernel
theorem dX8_takesBox_174 : decode cX8_takesBox 174 = .ok (.istore 5, 2) := by decide +kernel
theorem dX8_takesBox_176 : decode cX8_takesBox 176 = .ok (.iload 5, 2) := by decide +kernel
theorem dX8_takesBox_178 : decode cX8_takesBox 178 = .ok (.ifCond .lt 33, 3) := by decide +kernel
theorem dX8_takesBox_181 : decode cX8_takesBox 181 = .ok (.aload_n 0, 1) := by decide +kernel
theorem dX8_takesBox_182 : decode cX8_takesBox 182 = .ok (.getfield 61, 3) := by decide +kernel
theorem dX8_takesBox_185 : decode cX8_takesBox 185 = .ok (.iload 5, 2) := by decide +kernel
theorem dX8_takesBox_187 : decode cX8_takesBox 187 = .ok (.iaload, 1) := by decide +kernel
theorem dX8_takesBox_188 : decode cX8_takesBox 188 = .ok (.iconst (-1), 1) := by decide +kernel
theorem dX8_takesBox_189 : decode cX8_takesBox 189 = .ok (.if_icmp .eq 16, 3) := by decide +kernel
theorem dX8_takesBox_192 : decode cX8_takesBox 192 = .ok (.aload_n 0, 1) := by decide +kernel
theorem dX8_takesBox_193 : decode cX8_takesBox 193 = .ok (.aload_n 0, 1) := by decide +kernel
theorem dX8_takesBox_194 : decode cX8_takesBox 194 = .ok (.getfield 61, 3) := by decide +kernel
theorem dX8_takesBox_197 : decode cX8_takesBox 197 = .ok (.iload 5, 2) := by decide +kernel
theorem dX8_takesBox_199 : decode cX8_takesBox 199 = .ok (.iaload, 1) := by decide +kernel
theorem dX8_takesBox_200 : decode cX8_takesBox 200 = .ok (.iload 5, 2) := by decide +kernel
theorem dX8_takesBox_202 : decode cX8_takesBox 202 = .ok (.invokevirtual 171, 3) := by decide +kernel
theorem dX8_takesBox_205 : decode cX8_takesBox 205 = .ok (.iinc 5 (-1), 3) := by decide +kernel
theorem dX8_takesBox_208 : decode cX8_takesBox 208 = .ok (.goto (-32), 3) := by decide +kernel
theorem dX8_takesBox_211 : decode cX8_takesBox 211 = .ok (.aload_n 0, 1) := by decide +kernel
theorem dX8_takesBox_212 : decode cX8_takesBox 212 = .ok (.aload_n 0, 1) := by decide +kernel
theorem dX8_takesBox_213 : decode cX8_takesBox 213 = .ok (.getfield 7, 3) := by decide +kernel
theorem dX8_takesBox_216 : decode cX8_takesBox 216 = .ok (.iconst 0, 1) := by decide +kernel
theorem dX8_takesBox_217 : decode cX8_takesBox 217 = .ok (.iaload, 1) := by decide +kernel
theorem dX8_takesBox_218 : decode cX8_takesBox 218 = .ok (.invokevirtual 81, 3) := by decide +kernel
theorem dX8_takesBox_221 : decode cX8_takesBox 221 = .ok (.ifCond .le 57, 3) := by decide +kernel
theorem dX8_takesBox_224 : decode cX8_takesBox 224 = .ok (.aload_n 0, 1) := by decide +kernel
theorem dX8_takesBox_225 : decode cX8_takesBox 225 = .ok (.aload_n 0, 1) := by decide +kernel
theorem dX8_takesBox_226 : decode cX8_takesBox 226 = .ok (.getfield 7, 3) := by decide +kernel
theorem dX8_takesBox_229 : decode cX8_takesBox 229 = .ok (.iconst 0, 1) := by decide +kernel
theorem dX8_takesBox_230 : decode cX8_takesBox 230 = .ok (.iaload, 1) := by decide +kernel
theorem dX8_takesBox_231 : decode cX8_takesBox 231 = .ok (.invokevirtual 85, 3) := by decide +kernel
theorem dX8_takesBox_234 : decode cX8_takesBox 234 = .ok (.iconst 1, 1) := by decide +kernel
theorem dX8_takesBox_235 : decode cX8_takesBox 235 = .ok (.if_icmp .ne 43, 3) := by decide +kernel
theorem dX8_takesBox_238 : decode cX8_takesBox 238 = .ok (.aload_n 0, 1) := by decide +kernel
theorem dX8_takesBox_239 : decode cX8_takesBox 239 = .ok (.aload_n 0, 1) := by decide +kernel
theorem dX8_takesBox_240 : decode cX8_takesBox 240 = .ok (.getfield 7, 3) := by decide +kernel
theorem dX8_takesBox_243 : decode cX8_takesBox 243 = .ok (.iconst 0, 1) := by decide +kernel
theorem dX8_takesBox_244 : decode cX8_takesBox 244 = .ok (.iaload, 1) := by decide +kernel
theorem dX8_takesBox_245 : decode cX8_takesBox 245 = .ok (.iconst 0, 1) := by decide +kernel
theorem dX8_takesBox_246 : decode cX8_takesBox 246 = .ok (.invokevirtual 88, 3) := by decide +kernel
theorem dX8_takesBox_249 : decode cX8_takesBox 249 = .ok (.istore 5, 2) := by decide +kernel
theorem dX8_takesBox_251 : decode cX8_takesBox 251 = .ok (.aload_n 0, 1) := by decide +kernel
theorem dX8_takesBox_252 : decode cX8_takesBox 252 = .ok (.getfield 7, 3) := by decide +kernel
theorem dX8_takesBox_255 : decode cX8_takesBox 255 = .ok (.sipush 159, 3) := by decide +kernel
theorem dX8_takesBox_258 : decode cX8_takesBox 258 = .ok (.aload_n 0, 1) := by decide +kernel
theorem dX8_takesBox_259 : decode cX8_takesBox 259 = .ok (.getfield 7, 3) := by decide +kernel
theorem dX8_takesBox_262 : decode cX8_takesBox 262 = .ok (.iconst 0, 1) := by decide +kernel
theorem dX8_takesBox_263 : decode cX8_takesBox 263 = .ok (.iaload, 1) := by decide +kernel
theorem dX8_takesBox_264 : decode cX8_takesBox 264 = .ok (.iadd, 1) := by decide +kernel
theorem dX8_takesBox_265 : decode cX8_takesBox 265 = .ok (.iconst (-1), 1) := by decide +kernel
theorem dX8_takesBox_266 : decode cX8_takesBox 266 = .ok (.iastore, 1) := by decide +kernel
theorem dX8_takesBox_267 : decode cX8_takesBox 267 = .ok (.aload_n 0, 1) := by decide +kernel
theorem dX8_takesBox_268 : decode cX8_takesBox 268 = .ok (.getfield 7, 3) := by decide +kernel
theorem dX8_takesBox_271 : decode cX8_takesBox 271 = .ok (.iconst 0, 1) := by decide +kernel
theorem dX8_takesBox_272 : decode cX8_takesBox 272 = .ok (.iload 5, 2) := by decide +kernel
theorem dX8_takesBox_274 : decode cX8_takesBox 274 = .ok (.iastore, 1) := by decide +kernel
theorem dX8_takesBox_275 : decode cX8_takesBox 275 = .ok (.goto (-64), 3) := by decide +kernel
theorem dX8_takesBox_278 : decode cX8_takesBox 278 = .ok (.return_, 1) := by decide +kernel
theorem dX8_tells_0 : decode cX8_tells 0 = .ok (.aload_n 0, 1) := by decide +kernel
theorem dX8_tells_1 : decode cX8_tells 1 = .ok (.aload_n 0, 1) := by decide +kernel
theorem dX8_tells_2 : decode cX8_tells 2 = .ok (.getfield 135, 3) := by decide +kernel
theorem dX8_tells_5 : decode cX8_tells 5 = .ok (.putfield 177, 3) := by decide +kernel
theorem dX8_tells_8 : decode cX8_tells 8 = .ok (.iconst 0, 1) := by decide +kernel
theorem dX8_tells_9 : decode cX8_tells 9 = .ok (.istore_n 1, 1) := by decide +kernel
theorem dX8_tells_10 : decode cX8_tells 10 = .ok (.iload_n 1, 1) := by decide +kernel
theorem dX8_tells_11 : decode cX8_tells 11 = .ok (.aload_n 0, 1) := by decide +kernel
theorem dX8_tells_12 : decode cX8_tells 12 = .ok (.getfield 135, 3) := by decide +kernel
theorem dX8_tells_15 : decode cX8_tells 15 = .ok (.if_icmp .ge 33, 3) := by decide +kernel
theorem dX8_tells_18 : decode cX8_tells 18 = .ok (.aload_n 0, 1) := by decide +kernel
theorem dX8_tells_19 : decode cX8_tells 19 = .ok (.getfield 46, 3) := by decide +kernel
theorem dX8_tells_22 : decode cX8_tells 22 = .ok (.iload_n 1, 1) := by decide +kernel
theorem dX8_tells_23 : decode cX8_tells 23 = .ok (.aload_n 0, 1) := by decide +kernel
theorem dX8_tells_24 : decode cX8_tells 24 = .ok (.getfield 40, 3) := by decide +kernel
theorem dX8_tells_27 : decode cX8_tells 27 = .ok (.iload_n 1, 1) := by decide +kernel
theorem dX8_tells_28 : decode cX8_tells 28 = .ok (.iaload, 1) := by decide +kernel
theorem dX8_tells_29 : decode cX8_tells 29 = .ok (.iastore, 1) := by decide +kernel
theorem dX8_tells_30 : decode cX8_tells 30 = .ok (.aload_n 0, 1) := by decide +kernel
theorem dX8_tells_31 : decode cX8_tells 31 = .ok (.getfield 49, 3) := by decide +kernel
theorem dX8_tells_34 : decode cX8_tells 34 = .ok (.iload_n 1, 1) := by decide +kernel
theorem dX8_tells_35 : decode cX8_tells 35 = .ok (.aload_n 0, 1) := by decide +kernel
theorem dX8_tells_36 : decode cX8_tells 36 = .ok (.getfield 43, 3) := by decide +kernel
theorem dX8_tells_39 : decode cX8_tells 39 = .ok (.iload_n 1, 1) := by decide +kernel
theorem dX8_tells_40 : decode cX8_tells 40 = .ok (.iaload, 1) := by decide +kernel
theorem dX8_tells_41 : decode cX8_tells 41 = .ok (.iastore, 1) := by decide +kernel
theorem dX8_tells_42 : decode cX8_tells 42 = .ok (.iinc 1 1, 3) := by decide +kernel
theorem dX8_tells_45 : decode cX8_tells 45 = .ok (.goto (-35), 3) := by decide +kernel
theorem dX8_tells_48 : decode cX8_tells 48 = .ok (.return_, 1) := by decide +kernel
theorem dX8_isBox_0 : decode cX8_isBox 0 = .ok (.iload_n 0, 1) := by decide +kernel
theorem dX8_isBox_1 : decode cX8_isBox 1 = .ok (.iconst 0, 1) := by decide +kernel
theorem dX8_isBox_2 : decode cX8_isBox 2 = .ok (.bipush 30, 2) := by decide +kernel
theorem dX8_isBox_4 : decode cX8_isBox 4 = .ok (.invokestatic 180, 3) := by decide +kernel
theorem dX8_isBox_7 : decode cX8_isBox 7 = .ok (.ireturn, 1) := by decide +kernel
theorem dX8_areSides_0 : decode cX8_areSides 0 = .ok (.iload_n 0, 1) := by decide +kernel
theorem dX8_areSides_1 : decode cX8_areSides 1 = .ok (.iconst 0, 1) := by decide +kernel
theorem dX8_areSides_2 : decode cX8_areSides 2 = .ok (.bipush 99, 2) := by decide +kernel
theorem dX8_areSides_4 : decode cX8_areSides 4 = .ok (.invokestatic 180, 3) := by decide +kernel
theorem dX8_areSides_7 : decode cX8_areSides 7 = .ok (.ifCond .eq 37, 3) := by decide +kernel
theorem dX8_areSides_10 : decode cX8_areSides 10 = .ok (.iload_n 1, 1) := by decide +kernel
theorem dX8_areSides_11 : decode cX8_areSides 11 = .ok (.iconst 0, 1) := by decide +kernel
theorem dX8_areSides_12 : decode cX8_areSides 12 = .ok (.bipush 99, 2) := by decide +kernel
theorem dX8_areSides_14 : decode cX8_areSides 14 = .ok (.invokestatic 180, 3) := by decide +kernel
theorem dX8_areSides_17 : decode cX8_areSides 17 = .ok (.ifCond .eq 27, 3) := by decide +kernel
theorem dX8_areSides_20 : decode cX8_areSides 20 = .ok (.iload_n 2, 1) := by decide +kernel
theorem dX8_areSides_21 : decode cX8_areSides 21 = .ok (.iload_n 0, 1) := by decide +kernel
theorem dX8_areSides_22 : decode cX8_areSides 22 = .ok (.bipush 99, 2) := by decide +kernel
theorem dX8_areSides_24 : decode cX8_areSides 24 = .ok (.invokestatic 180, 3) := by decide +kernel
theorem dX8_areSides_27 : decode cX8_areSides 27 = .ok (.ifCond .eq 17, 3) := by decide +kernel
theorem dX8_areSides_30 : decode cX8_areSides 30 = .ok (.iload_n 3, 1) := by decide +kernel
theorem dX8_areSides_31 : decode cX8_areSides 31 = .ok (.iload_n 1, 1) := by decide +kernel
theorem dX8_areSides_32 : decode cX8_areSides 32 = .ok (.bipush 99, 2) := by decide +kernel
theorem dX8_areSides_34 : decode cX8_areSides 34 = .ok (.invokestatic 180, 3) := by decide +kernel
theorem dX8_areSides_37 : decode cX8_areSides 37 = .ok (.ifCond .eq 7, 3) := by decide +kernel
theorem dX8_areSides_40 : decode cX8_areSides 40 = .ok (.iconst 1, 1) := by decide +kernel
theorem dX8_areSides_41 : decode cX8_areSides 41 = .ok (.goto 4, 3) := by decide +kernel
theorem dX8_areSides_44 : decode cX8_areSides 44 = .ok (.iconst 0, 1) := by decide +kernel
theorem dX8_areSides_45 : decode cX8_areSides 45 = .ok (.ireturn, 1) := by decide +kernel
theorem dX8_isThere_0 : decode cX8_isThere 0 = .ok (.aload_n 0, 1) := by decide +kernel
theorem dX8_isThere_1 : decode cX8_isThere 1 = .ok (.getfield 7, 3) := by decide +kernel
theorem dX8_isThere_4 : decode cX8_isThere 4 = .ok (.iconst 4, 1) := by decide +kernel
theorem dX8_isThere_5 : decode cX8_isThere 5 = .ok (.iload_n 1, 1) := by decide +kernel
theorem dX8_isThere_6 : decode cX8_isThere 6 = .ok (.iadd, 1) := by decide +kernel
theorem dX8_isThere_7 : decode cX8_isThere 7 = .ok (.iaload, 1) := by decide +kernel
theorem dX8_isThere_8 : decode cX8_isThere 8 = .ok (.iconst 1, 1) := by decide +kernel
theorem dX8_isThere_9 : decode cX8_isThere 9 = .ok (.if_icmp .ne 7, 3) := by decide +kernel
theorem dX8_isThere_12 : decode cX8_isThere 12 = .ok (.iconst 1, 1) := by decide +kernel
theorem dX8_isThere_13 : decode cX8_isThere 13 = .ok (.goto 4, 3) := by decide +kernel
theorem dX8_isThere_16 : decode cX8_isThere 16 = .ok (.iconst 0, 1) := by decide +kernel
theorem dX8_isThere_17 : decode cX8_isThere 17 = .ok (.ireturn, 1) := by decide +kernel
theorem dX8_put_0 : decode cX8_put 0 = .ok (.iload_n 1, 1) := by decide +kernel
theorem dX8_put_1 : decode cX8_put 1 = .ok (.invokestatic 184, 3) := by decide +kernel
theorem dX8_put_4 : decode cX8_put 4 = .ok (.ifCond .eq 15, 3) := by decide +kernel
theorem dX8_put_7 : decode cX8_put 7 = .ok (.iload_n 2, 1) := by decide +kernel
theorem dX8_put_8 : decode cX8_put 8 = .ok (.iload_n 3, 1) := by decide +kernel
theorem dX8_put_9 : decode cX8_put 9 = .ok (.iload 4, 2) := by decide +kernel
theorem dX8_put_11 : decode cX8_put 11 = .ok (.iload 5, 2) := by decide +kernel
theorem dX8_put_13 : decode cX8_put 13 = .ok (.invokestatic 188, 3) := by decide +kernel
theorem dX8_put_16 : decode cX8_put 16 = .ok (.ifCond .ne 6, 3) := by decide +kernel
theorem dX8_put_19 : decode cX8_put 19 = .ok (.ldc 192, 2) := by decide +kernel
theorem dX8_put_21 : decode cX8_put 21 = .ok (.ireturn, 1) := by decide +kernel
theorem dX8_put_22 : decode cX8_put 22 = .ok (.aload_n 0, 1) := by decide +kernel
theorem dX8_put_23 : decode cX8_put 23 = .ok (.iload_n 1, 1) := by decide +kernel
theorem dX8_put_24 : decode cX8_put 24 = .ok (.invokevirtual 193, 3) := by decide +kernel
theorem dX8_put_27 : decode cX8_put 27 = .ok (.ifCond .eq 6, 3) := by decide +kernel
theorem dX8_put_30 : decode cX8_put 30 = .ok (.ldc 80, 2) := by decide +kernel
theorem dX8_put_32 : decode cX8_put 32 = .ok (.ireturn, 1) := by decide +kernel
theorem dX8_put_33 : decode cX8_put 33 = .ok (.aload_n 0, 1) := by decide +kernel
theorem dX8_put_34 : decode cX8_put 34 = .ok (.invokevirtual 196, 3) := by decide +kernel
theorem dX8_put_37 : decode cX8_put 37 = .ok (.aload_n 0, 1) := by decide +kernel
theorem dX8_put_38 : decode cX8_put 38 = .ok (.invokevirtual 199, 3) := by decide +kernel
theorem dX8_put_41 : decode cX8_put 41 = .ok (.aload_n 0, 1) := by decide +kernel
theorem dX8_put_42 : decode cX8_put 42 = .ok (.iload_n 1, 1) := by decide +kernel
theorem dX8_put_43 : decode cX8_put 43 = .ok (.iload_n 2, 1) := by decide +kernel
theorem dX8_put_44 : decode cX8_put 44 = .ok (.iload_n 3, 1) := by decide +kernel
theorem dX8_put_45 : decode cX8_put 45 = .ok (.iload 4, 2) := by decide +kernel
theorem dX8_put_47 : decode cX8_put 47 = .ok (.iload 5, 2) := by decide +kernel
theorem dX8_put_49 : decode cX8_put 49 = .ok (.invokevirtual 202, 3) := by decide +kernel
theorem dX8_put_52 : decode cX8_put 52 = .ok (.aload_n 0, 1) := by decide +kernel
theorem dX8_put_53 : decode cX8_put 53 = .ok (.invokevirtual 206, 3) := by decide +kernel
theorem dX8_put_56 : decode cX8_put 56 = .ok (.aload_n 0, 1) := by decide +kernel
theorem dX8_put_57 : decode cX8_put 57 = .ok (.invokevirtual 209, 3) := by decide +kernel
theorem dX8_put_60 : decode cX8_put 60 = .ok (.ireturn, 1) := by decide +kernel
theorem dX8_take_0 : decode cX8_take 0 = .ok (.iload_n 1, 1) := by decide +kernel
theorem dX8_take_1 : decode cX8_take 1 = .ok (.invokestatic 184, 3) := by decide +kernel
theorem dX8_take_4 : decode cX8_take 4 = .ok (.ifCond .ne 6, 3) := by decide +kernel
theorem dX8_take_7 : decode cX8_take 7 = .ok (.ldc 192, 2) := by decide +kernel
theorem dX8_take_9 : decode cX8_take 9 = .ok (.ireturn, 1) := by decide +kernel
theorem dX8_take_10 : decode cX8_take 10 = .ok (.aload_n 0, 1) := by decide +kernel
theorem dX8_take_11 : decode cX8_take 11 = .ok (.iload_n 1, 1) := by decide +kernel
theorem dX8_take_12 : decode cX8_take 12 = .ok (.invokevirtual 193, 3) := by decide +kernel
theorem dX8_take_15 : decode cX8_take 15 = .ok (.ifCond .ne 6, 3) := by decide +kernel
theorem dX8_take_18 : decode cX8_take 18 = .ok (.ldc 80, 2) := by decide +kernel
theorem dX8_take_20 : decode cX8_take 20 = .ok (.ireturn, 1) := by decide +kernel
theorem dX8_take_21 : decode cX8_take 21 = .ok (.aload_n 0, 1) := by decide +kernel
theorem dX8_take_22 : decode cX8_take 22 = .ok (.invokevirtual 196, 3) := by decide +kernel
theorem dX8_take_25 : decode cX8_take 25 = .ok (.aload_n 0, 1) := by decide +kernel
theorem dX8_take_26 : decode cX8_take 26 = .ok (.invokevirtual 199, 3) := by decide +kernel
theorem dX8_take_29 : decode cX8_take 29 = .ok (.aload_n 0, 1) := by decide +kernel
theorem dX8_take_30 : decode cX8_take 30 = .ok (.iload_n 1, 1) := by decide +kernel
theorem dX8_take_31 : decode cX8_take 31 = .ok (.invokevirtual 212, 3) := by decide +kernel
theorem dX8_take_34 : decode cX8_take 34 = .ok (.aload_n 0, 1) := by decide +kernel
theorem dX8_take_35 : decode cX8_take 35 = .ok (.invokevirtual 206, 3) := by decide +kernel
theorem dX8_take_38 : decode cX8_take 38 = .ok (.aload_n 0, 1) := by decide +kernel
theorem dX8_take_39 : decode cX8_take 39 = .ok (.invokevirtual 209, 3) := by decide +kernel
theorem dX8_take_42 : decode cX8_take 42 = .ok (.ireturn, 1) := by decide +kernel
theorem dX8_layRow_0 : decode cX8_layRow 0 = .ok (.aload_n 0, 1) := by decide +kernel
theorem dX8_layRow_1 : decode cX8_layRow 1 = .ok (.getfield 64, 3) := by decide +kernel
theorem dX8_layRow_4 : decode cX8_layRow 4 = .ok (.iconst 0, 1) := by decide +kernel
theorem dX8_layRow_5 : decode cX8_layRow 5 = .ok (.aload_n 0, 1) := by decide +kernel
theorem dX8_layRow_6 : decode cX8_layRow 6 = .ok (.getfield 7, 3) := by decide +kernel
theorem dX8_layRow_9 : decode cX8_layRow 9 = .ok (.iconst 0, 1) := by decide +kernel
theorem dX8_layRow_10 : decode cX8_layRow 10 = .ok (.iaload, 1) := by decide +kernel
theorem dX8_layRow_11 : decode cX8_layRow 11 = .ok (.iastore, 1) := by decide +kernel
theorem dX8_layRow_12 : decode cX8_layRow 12 = .ok (.aload_n 0, 1) := by decide +kernel
theorem dX8_layRow_13 : decode cX8_layRow 13 = .ok (.iconst 1, 1) := by decide +kernel
theorem dX8_layRow_14 : decode cX8_layRow 14 = .ok (.putfield 215, 3) := by decide +kernel
theorem dX8_layRow_17 : decode cX8_layRow 17 = .ok (.aload_n 0, 1) := by decide +kernel
theorem dX8_layRow_18 : decode cX8_layRow 18 = .ok (.aload_n 0, 1) := by decide +kernel
theorem dX8_layRow_19 : decode cX8_layRow 19 = .ok (.getfield 7, 3) := by decide +kernel
theorem dX8_layRow_22 : decode cX8_layRow 22 = .ok (.iconst 0, 1) := by decide +kernel
theorem dX8_layRow_23 : decode cX8_layRow 23 = .ok (.iaload, 1) := by decide +kernel
theorem dX8_layRow_24 : decode cX8_layRow 24 = .ok (.invokevirtual 81, 3) := by decide +kernel
theorem dX8_layRow_27 : decode cX8_layRow 27 = .ok (.istore_n 2, 1) := by decide +kernel
theorem dX8_layRow_28 : decode cX8_layRow 28 = .ok (.iload_n 2, 1) := by decide +kernel
theorem dX8_layRow_29 : decode cX8_layRow 29 = .ok (.iload_n 1, 1) := by decide +kernel
theorem dX8_layRow_30 : decode cX8_layRow 30 = .ok (.if_icmp .le 110, 3) := by decide +kernel
theorem dX8_layRow_33 : decode cX8_layRow 33 = .ok (.iconst 0, 1) := by decide +kernel
theorem dX8_layRow_34 : decode cX8_layRow 34 = .ok (.istore_n 3, 1) := by decide +kernel
theorem dX8_layRow_35 : decode cX8_layRow 35 = .ok (.iconst 0, 1) := by decide +kernel
theorem dX8_layRow_36 : decode cX8_layRow 36 = .ok (.istore 4, 2) := by decide +kernel
theorem dX8_layRow_38 : decode cX8_layRow 38 = .ok (.iload 4, 2) := by decide +kernel
theorem dX8_layRow_40 : decode cX8_layRow 40 = .ok (.aload_n 0, 1) := by decide +kernel
theorem dX8_layRow_41 : decode cX8_layRow 41 = .ok (.getfield 215, 3) := by decide +kernel
theorem dX8_layRow_44 : decode cX8_layRow 44 = .ok (.if_icmp .ge 56, 3) := by decide +kernel
theorem dX8_layRow_47 : decode cX8_layRow 47 = .ok (.iconst 0, 1) := by decide +kernel
theorem dX8_layRow_48 : decode cX8_layRow 48 = .ok (.istore 5, 2) := by decide +kernel
theorem dX8_layRow_50 : decode cX8_layRow 50 = .ok (.iload 5, 2) := by decide +kernel
theorem dX8_layRow_52 : decode cX8_layRow 52 = .ok (.aload_n 0, 1) := by decide +kernel
theorem dX8_layRow_53 : decode cX8_layRow 53 = .ok (.aload_n 0, 1) := by decide +kernel
theorem dX8_layRow_54 : decode cX8_layRow 54 = .ok (.getfield 64, 3) := by decide +kernel
theorem dX8_layRow_57 : decode cX8_layRow 57 = .ok (.iload 4, 2) := by decide +kernel
theorem dX8_layRow_59 : decode cX8_layRow 59 = .ok (.iaload, 1) := by decide +kernel
theorem dX8_layRow_60 : decode cX8_layRow 60 = .ok (.invokevirtual 85, 3) := by decide +kernel
theorem dX8_layRow_63 : decode cX8_layRow 63 = .ok (.if_icmp .ge 31, 3) := by decide +kernel
theorem dX8_layRow_66 : decode cX8_layRow 66 = .ok (.aload_n 0, 1) := by decide +kernel
theorem dX8_layRow_67 : decode cX8_layRow 67 = .ok (.getfield 67, 3) := by decide +kernel
theorem dX8_layRow_70 : decode cX8_layRow 70 = .ok (.iload_n 3, 1) := by decide +kernel
theorem dX8_layRow_71 : decode cX8_layRow 71 = .ok (.aload_n 0, 1) := by decide +kernel
theorem dX8_layRow_72 : decode cX8_layRow 72 = .ok (.aload_n 0, 1) := by decide +kernel
theorem dX8_layRow_73 : decode cX8_layRow 73 = .ok (.getfield 64, 3) := by decide +kernel
theorem dX8_layRow_76 : decode cX8_layRow 76 = .ok (.iload 4, 2) := by decide +kernel
theorem dX8_layRow_78 : decode cX8_layRow 78 = .ok (.iaload, 1) := by decide +kernel
theorem dX8_layRow_79 : decode cX8_layRow 79 = .ok (.iload 5, 2) := by decide +kernel
theorem dX8_layRow_81 : decode cX8_layRow 81 = .ok (.invokevirtual 88, 3) := by decide +kernel
theorem dX8_layRow_84 : decode cX8_layRow 84 = .ok (.iastore, 1) := by decide +kernel
theorem dX8_layRow_85 : decode cX8_layRow 85 = .ok (.iinc 3 1, 3) := by decide +kernel
theorem dX8_layRow_88 : decode cX8_layRow 88 = .ok (.iinc 5 1, 3) := by decide +kernel
theorem dX8_layRow_91 : decode cX8_layRow 91 = .ok (.goto (-41), 3) := by decide +kernel
theorem dX8_layRow_94 : decode cX8_layRow 94 = .ok (.iinc 4 1, 3) := by decide +kernel
theorem dX8_layRow_97 : decode cX8_layRow 97 = .ok (.goto (-59), 3) := by decide +kernel
theorem dX8_layRow_100 : decode cX8_layRow 100 = .ok (.iconst 0, 1) := by decide +kernel
theorem dX8_layRow_101 : decode cX8_layRow 101 = .ok (.istore 4, 2) := by decide +kernel
theorem dX8_layRow_103 : decode cX8_layRow 103 = .ok (.iload 4, 2) := by decide +kernel
theorem dX8_layRow_105 : decode cX8_layRow 105 = .ok (.iload_n 3, 1) := by decide +kernel
theorem dX8_layRow_106 : decode cX8_layRow 106 = .ok (.if_icmp .ge 23, 3) := by decide +kernel
theorem dX8_layRow_109 : decode cX8_layRow 109 = .ok (.aload_n 0, 1) := by decide +kernel
theorem dX8_layRow_110 : decode cX8_layRow 110 = .ok (.getfield 64, 3) := by decide +kernel
theorem dX8_layRow_113 : decode cX8_layRow 113 = .ok (.iload 4, 2) := by decide +kernel
theorem dX8_layRow_115 : decode cX8_layRow 115 = .ok (.aload_n 0, 1) := by decide +kernel
theorem dX8_layRow_116 : decode cX8_layRow 116 = .ok (.getfield 67, 3) := by decide +kernel
theorem dX8_layRow_119 : decode cX8_layRow 119 = .ok (.iload 4, 2) := by decide +kernel
theorem dX8_layRow_121 : decode cX8_layRow 121 = .ok (.iaload, 1) := by decide +kernel
theorem dX8_layRow_122 : decode cX8_layRow 122 = .ok (.iastore, 1) := by decide +kernel
theorem dX8_layRow_123 : decode cX8_layRow 123 = .ok (.iinc 4 1, 3) := by decide +kernel
theorem dX8_layRow_126 : decode cX8_layRow 126 = .ok (.goto (-23), 3) := by decide +kernel
theorem dX8_layRow_129 : decode cX8_layRow 129 = .ok (.aload_n 0, 1) := by decide +kernel
theorem dX8_layRow_130 : decode cX8_layRow 130 = .ok (.iload_n 3, 1) := by decide +kernel
theorem dX8_layRow_131 : decode cX8_layRow 131 = .ok (.putfield 215, 3) := by decide +kernel
theorem dX8_layRow_134 : decode cX8_layRow 134 = .ok (.iinc 2 (-1), 3) := by decide +kernel
theorem dX8_layRow_137 : decode cX8_layRow 137 = .ok (.goto (-109), 3) := by decide +kernel
theorem dX8_layRow_140 : decode cX8_layRow 140 = .ok (.return_, 1) := by decide +kernel
theorem dX8_placeOf_0 : decode cX8_placeOf 0 = .ok (.aload_n 0, 1) := by decide +kernel
theorem dX8_placeOf_1 : decode cX8_placeOf 1 = .ok (.aload_n 0, 1) := by decide +kernel
theorem dX8_placeOf_2 : decode cX8_placeOf 2 = .ok (.iload_n 1, 1) := by decide +kernel
theorem dX8_placeOf_3 : decode cX8_placeOf 3 = .ok (.invokevirtual 81, 3) := by decide +kernel
theorem dX8_placeOf_6 : decode cX8_placeOf 6 = .ok (.invokevirtual 218, 3) := by decide +kernel
theorem dX8_placeOf_9 : decode cX8_placeOf 9 = .ok (.iconst 0, 1) := by decide +kernel
theorem dX8_placeOf_10 : decode cX8_placeOf 10 = .ok (.istore_n 2, 1) := by decide +kernel
theorem dX8_placeOf_11 : decode cX8_placeOf 11 = .ok (.aload_n 0, 1) := by decide +kernel
theorem dX8_placeOf_12 : decode cX8_placeOf 12 = .ok (.getfield 64, 3) := by decide +kernel
theorem dX8_placeOf_15 : decode cX8_placeOf 15 = .ok (.iload_n 2, 1) := by decide +kernel
theorem dX8_placeOf_16 : decode cX8_placeOf 16 = .ok (.iaload, 1) := by decide +kernel
theorem dX8_placeOf_17 : decode cX8_placeOf 17 = .ok (.iload_n 1, 1) := by decide +kernel
theorem dX8_placeOf_18 : decode cX8_placeOf 18 = .ok (.if_icmp .eq 9, 3) := by decide +kernel
theorem dX8_placeOf_21 : decode cX8_placeOf 21 = .ok (.iinc 2 1, 3) := by decide +kernel
theorem dX8_placeOf_24 : decode cX8_placeOf 24 = .ok (.goto (-13), 3) := by decide +kernel
theorem dX8_placeOf_27 : decode cX8_placeOf 27 = .ok (.iload_n 2, 1) := by decide +kernel
theorem dX8_placeOf_28 : decode cX8_placeOf 28 = .ok (.ireturn, 1) := by decide +kernel
theorem dX8_boxOf_0 : decode cX8_boxOf 0 = .ok (.iload_n 1, 1) := by decide +kernel
theorem dX8_boxOf_1 : decode cX8_boxOf 1 = .ok (.invokestatic 184, 3) := by decide +kernel
theorem dX8_boxOf_4 : decode cX8_boxOf 4 = .ok (.ifCond .eq 12, 3) := by decide +kernel
theorem dX8_boxOf_7 : decode cX8_boxOf 7 = .ok (.iload_n 2, 1) := by decide +kernel
theorem dX8_boxOf_8 : decode cX8_boxOf 8 = .ok (.iconst 0, 1) := by decide +kernel
theorem dX8_boxOf_9 : decode cX8_boxOf 9 = .ok (.iconst 5, 1) := by decide +kernel
theorem dX8_boxOf_10 : decode cX8_boxOf 10 = .ok (.invokestatic 180, 3) := by decide +kernel
theorem dX8_boxOf_13 : decode cX8_boxOf 13 = .ok (.ifCond .ne 6, 3) := by decide +kernel
theorem dX8_boxOf_16 : decode cX8_boxOf 16 = .ok (.ldc 192, 2) := by decide +kernel
theorem dX8_boxOf_18 : decode cX8_boxOf 18 = .ok (.ireturn, 1) := by decide +kernel
theorem dX8_boxOf_19 : decode cX8_boxOf 19 = .ok (.aload_n 0, 1) := by decide +kernel
theorem dX8_boxOf_20 : decode cX8_boxOf 20 = .ok (.iload_n 1, 1) := by decide +kernel
theorem dX8_boxOf_21 : decode cX8_boxOf 21 = .ok (.invokevirtual 193, 3) := by decide +kernel
theorem dX8_boxOf_24 : decode cX8_boxOf 24 = .ok (.ifCond .ne 6, 3) := by decide +kernel
theorem dX8_boxOf_27 : decode cX8_boxOf 27 = .ok (.ldc 221, 2) := by decide +kernel
theorem dX8_boxOf_29 : decode cX8_boxOf 29 = .ok (.ireturn, 1) := by decide +kernel
theorem dX8_boxOf_30 : decode cX8_boxOf 30 = .ok (.iload_n 2, 1) := by decide +kernel
theorem dX8_boxOf_31 : decode cX8_boxOf 31 = .ok (.iconst 4, 1) := by decide +kernel
theorem dX8_boxOf_32 : decode cX8_boxOf 32 = .ok (.if_icmp .ge 7, 3) := by decide +kernel
theorem dX8_boxOf_35 : decode cX8_boxOf 35 = .ok (.iconst (-1), 1) := by decide +kernel
theorem dX8_boxOf_36 : decode cX8_boxOf 36 = .ok (.goto 9, 3) := by decide +kernel
theorem dX8_boxOf_39 : decode cX8_boxOf 39 = .ok (.aload_n 0, 1) := by decide +kernel
theorem dX8_boxOf_40 : decode cX8_boxOf 40 = .ok (.iload_n 1, 1) := by decide +kernel
theorem dX8_boxOf_41 : decode cX8_boxOf 41 = .ok (.iconst 0, 1) := by decide +kernel
theorem dX8_boxOf_42 : decode cX8_boxOf 42 = .ok (.invokevirtual 174, 3) := by decide +kernel
theorem dX8_boxOf_45 : decode cX8_boxOf 45 = .ok (.istore_n 3, 1) := by decide +kernel
theorem dX8_boxOf_46 : decode cX8_boxOf 46 = .ok (.iload_n 2, 1) := by decide +kernel
theorem dX8_boxOf_47 : decode cX8_boxOf 47 = .ok (.iconst 4, 1) := by decide +kernel
theorem dX8_boxOf_48 : decode cX8_boxOf 48 = .ok (.if_icmp .ge 19, 3) := by decide +kernel
theorem dX8_boxOf_51 : decode cX8_boxOf 51 = .ok (.aload_n 0, 1) := by decide +kernel
theorem dX8_boxOf_52 : decode cX8_boxOf 52 = .ok (.getfield 7, 3) := by decide +kernel
theorem dX8_boxOf_55 : decode cX8_boxOf 55 = .ok (.bipush 35, 2) := by decide +kernel
theorem dX8_boxOf_57 : decode cX8_boxOf 57 = .ok (.iconst 4, 1) := by decide +kernel
theorem dX8_boxOf_58 : decode cX8_boxOf 58 = .ok (.iload_n 1, 1) := by decide +kernel
theorem dX8_boxOf_59 : decode cX8_boxOf 59 = .ok (.imul, 1) := by decide +kernel
theorem dX8_boxOf_60 : decode cX8_boxOf 60 = .ok (.iadd, 1) := by decide +kernel
theorem dX8_boxOf_61 : decode cX8_boxOf 61 = .ok (.iload_n 2, 1) := by decide +kernel
theorem dX8_boxOf_62 : decode cX8_boxOf 62 = .ok (.iadd, 1) := by decide +kernel
theorem dX8_boxOf_63 : decode cX8_boxOf 63 = .ok (.iaload, 1) := by decide +kernel
theorem dX8_boxOf_64 : decode cX8_boxOf 64 = .ok (.goto 22, 3) := by decide +kernel
theorem dX8_boxOf_67 : decode cX8_boxOf 67 = .ok (.iload_n 2, 1) := by decide +kernel
theorem dX8_boxOf_68 : decode cX8_boxOf 68 = .ok (.iconst 4, 1) := by decide +kernel
theorem dX8_boxOf_69 : decode cX8_boxOf 69 = .ok (.if_icmp .ne 11, 3) := by decide +kernel
theorem dX8_boxOf_72 : decode cX8_boxOf 72 = .ok (.aload_n 0, 1) := by decide +kernel
theorem dX8_boxOf_73 : decode cX8_boxOf 73 = .ok (.iload_n 3, 1) := by decide +kernel
theorem dX8_boxOf_74 : decode cX8_boxOf 74 = .ok (.invokevirtual 222, 3) := by decide +kernel
theorem dX8_boxOf_77 : decode cX8_boxOf 77 = .ok (.goto 9, 3) := by decide +kernel
theorem dX8_boxOf_80 : decode cX8_boxOf 80 = .ok (.aload_n 0, 1) := by decide +kernel
theorem dX8_boxOf_81 : decode cX8_boxOf 81 = .ok (.iload_n 3, 1) := by decide +kernel
theorem dX8_boxOf_82 : decode cX8_boxOf 82 = .ok (.iload_n 1, 1) := by decide +kernel
theorem dX8_boxOf_83 : decode cX8_boxOf 83 = .ok (.invokevirtual 106, 3) := by decide +kernel
theorem dX8_boxOf_86 : decode cX8_boxOf 86 = .ok (.ireturn, 1) := by decide +kernel
theorem dX8_nodeOf_0 : decode cX8_nodeOf 0 = .ok (.iload_n 1, 1) := by decide +kernel
theorem dX8_nodeOf_1 : decode cX8_nodeOf 1 = .ok (.ifCond .lt 16, 3) := by decide +kernel
theorem dX8_nodeOf_4 : decode cX8_nodeOf 4 = .ok (.iload_n 2, 1) := by decide +kernel
theorem dX8_nodeOf_5 : decode cX8_nodeOf 5 = .ok (.ifCond .lt 12, 3) := by decide +kernel
theorem dX8_nodeOf_8 : decode cX8_nodeOf 8 = .ok (.iload_n 3, 1) := by decide +kernel
theorem dX8_nodeOf_9 : decode cX8_nodeOf 9 = .ok (.iconst 0, 1) := by decide +kernel
theorem dX8_nodeOf_10 : decode cX8_nodeOf 10 = .ok (.iconst 5, 1) := by decide +kernel
theorem dX8_nodeOf_11 : decode cX8_nodeOf 11 = .ok (.invokestatic 180, 3) := by decide +kernel
theorem dX8_nodeOf_14 : decode cX8_nodeOf 14 = .ok (.ifCond .ne 6, 3) := by decide +kernel
theorem dX8_nodeOf_17 : decode cX8_nodeOf 17 = .ok (.ldc 192, 2) := by decide +kernel
theorem dX8_nodeOf_19 : decode cX8_nodeOf 19 = .ok (.ireturn, 1) := by decide +kernel
theorem dX8_nodeOf_20 : decode cX8_nodeOf 20 = .ok (.iload_n 1, 1) := by decide +kernel
theorem dX8_nodeOf_21 : decode cX8_nodeOf 21 = .ok (.aload_n 0, 1) := by decide +kernel
theorem dX8_nodeOf_22 : decode cX8_nodeOf 22 = .ok (.invokevirtual 209, 3) := by decide +kernel
theorem dX8_nodeOf_25 : decode cX8_nodeOf 25 = .ok (.if_icmp .lt 6, 3) := by decide +kernel
theorem dX8_nodeOf_28 : decode cX8_nodeOf 28 = .ok (.ldc 221, 2) := by decide +kernel
theorem dX8_nodeOf_30 : decode cX8_nodeOf 30 = .ok (.ireturn, 1) := by decide +kernel
theorem dX8_nodeOf_31 : decode cX8_nodeOf 31 = .ok (.aload_n 0, 1) := by decide +kernel
theorem dX8_nodeOf_32 : decode cX8_nodeOf 32 = .ok (.iload_n 1, 1) := by decide +kernel
theorem dX8_nodeOf_33 : decode cX8_nodeOf 33 = .ok (.invokevirtual 218, 3) := by decide +kernel
theorem dX8_nodeOf_36 : decode cX8_nodeOf 36 = .ok (.iload_n 2, 1) := by decide +kernel
theorem dX8_nodeOf_37 : decode cX8_nodeOf 37 = .ok (.aload_n 0, 1) := by decide +kernel
theorem dX8_nodeOf_38 : decode cX8_nodeOf 38 = .ok (.getfield 215, 3) := by decide +kernel
theorem dX8_nodeOf_41 : decode cX8_nodeOf 41 = .ok (.if_icmp .lt 6, 3) := by decide +kernel
theorem dX8_nodeOf_44 : decode cX8_nodeOf 44 = .ok (.ldc 221, 2) := by decide +kernel
theorem dX8_nodeOf_46 : decode cX8_nodeOf 46 = .ok (.ireturn, 1) := by decide +kernel
theorem dX8_nodeOf_47 : decode cX8_nodeOf 47 = .ok (.aload_n 0, 1) := by decide +kernel
theorem dX8_nodeOf_48 : decode cX8_nodeOf 48 = .ok (.getfield 64, 3) := by decide +kernel
theorem dX8_nodeOf_51 : decode cX8_nodeOf 51 = .ok (.iload_n 2, 1) := by decide +kernel
theorem dX8_nodeOf_52 : decode cX8_nodeOf 52 = .ok (.iaload, 1) := by decide +kernel
theorem dX8_nodeOf_53 : decode cX8_nodeOf 53 = .ok (.istore 4, 2) := by decide +kernel
theorem dX8_nodeOf_55 : decode cX8_nodeOf 55 = .ok (.aload_n 0, 1) := by decide +kernel
theorem dX8_nodeOf_56 : decode cX8_nodeOf 56 = .ok (.iload 4, 2) := by decide +kernel
theorem dX8_nodeOf_58 : decode cX8_nodeOf 58 = .ok (.invokevirtual 85, 3) := by decide +kernel
theorem dX8_nodeOf_61 : decode cX8_nodeOf 61 = .ok (.istore 5, 2) := by decide +kernel
theorem dX8_nodeOf_63 : decode cX8_nodeOf 63 = .ok (.iload_n 3, 1) := by decide +kernel
theorem dX8_nodeOf_64 : decode cX8_nodeOf 64 = .ok (.iconst 4, 1) := by decide +kernel
theorem dX8_nodeOf_65 : decode cX8_nodeOf 65 = .ok (.if_icmp .ge 29, 3) := by decide +kernel
theorem dX8_nodeOf_68 : decode cX8_nodeOf 68 = .ok (.aload_n 0, 1) := by decide +kernel
theorem dX8_nodeOf_69 : decode cX8_nodeOf 69 = .ok (.invokevirtual 126, 3) := by decide +kernel
theorem dX8_nodeOf_72 : decode cX8_nodeOf 72 = .ok (.iload 5, 2) := by decide +kernel
theorem dX8_nodeOf_74 : decode cX8_nodeOf 74 = .ok (.ifCond .ne 8, 3) := by decide +kernel
theorem dX8_nodeOf_77 : decode cX8_nodeOf 77 = .ok (.ldc 221, 2) := by decide +kernel
theorem dX8_nodeOf_79 : decode cX8_nodeOf 79 = .ok (.goto 14, 3) := by decide +kernel
theorem dX8_nodeOf_82 : decode cX8_nodeOf 82 = .ok (.aload_n 0, 1) := by decide +kernel
theorem dX8_nodeOf_83 : decode cX8_nodeOf 83 = .ok (.getfield 22, 3) := by decide +kernel
theorem dX8_nodeOf_86 : decode cX8_nodeOf 86 = .ok (.iconst 4, 1) := by decide +kernel
theorem dX8_nodeOf_87 : decode cX8_nodeOf 87 = .ok (.iload 4, 2) := by decide +kernel
theorem dX8_nodeOf_89 : decode cX8_nodeOf 89 = .ok (.imul, 1) := by decide +kernel
theorem dX8_nodeOf_90 : decode cX8_nodeOf 90 = .ok (.iload_n 3, 1) := by decide +kernel
theorem dX8_nodeOf_91 : decode cX8_nodeOf 91 = .ok (.iadd, 1) := by decide +kernel
theorem dX8_nodeOf_92 : decode cX8_nodeOf 92 = .ok (.iaload, 1) := by decide +kernel
theorem dX8_nodeOf_93 : decode cX8_nodeOf 93 = .ok (.ireturn, 1) := by decide +kernel
theorem dX8_nodeOf_94 : decode cX8_nodeOf 94 = .ok (.iload_n 3, 1) := by decide +kernel
theorem dX8_nodeOf_95 : decode cX8_nodeOf 95 = .ok (.iconst 4, 1) := by decide +kernel
theorem dX8_nodeOf_96 : decode cX8_nodeOf 96 = .ok (.if_icmp .ne 6, 3) := by decide +kernel
theorem dX8_nodeOf_99 : decode cX8_nodeOf 99 = .ok (.iload 5, 2) := by decide +kernel
theorem dX8_nodeOf_101 : decode cX8_nodeOf 101 = .ok (.ireturn, 1) := by decide +kernel
theorem dX8_nodeOf_102 : decode cX8_nodeOf 102 = .ok (.iload_n 1, 1) := by decide +kernel
theorem dX8_nodeOf_103 : decode cX8_nodeOf 103 = .ok (.ifCond .le 15, 3) := by decide +kernel
theorem dX8_nodeOf_106 : decode cX8_nodeOf 106 = .ok (.aload_n 0, 1) := by decide +kernel
theorem dX8_nodeOf_107 : decode cX8_nodeOf 107 = .ok (.aload_n 0, 1) := by decide +kernel
theorem dX8_nodeOf_108 : decode cX8_nodeOf 108 = .ok (.iload 4, 2) := by decide +kernel
theorem dX8_nodeOf_110 : decode cX8_nodeOf 110 = .ok (.iconst 0, 1) := by decide +kernel
theorem dX8_nodeOf_111 : decode cX8_nodeOf 111 = .ok (.invokevirtual 88, 3) := by decide +kernel
theorem dX8_nodeOf_114 : decode cX8_nodeOf 114 = .ok (.invokevirtual 222, 3) := by decide +kernel
theorem dX8_nodeOf_117 : decode cX8_nodeOf 117 = .ok (.ireturn, 1) := by decide +kernel
theorem dX8_nodeOf_118 : decode cX8_nodeOf 118 = .ok (.iconst 0, 1) := by decide +kernel
theorem dX8_nodeOf_119 : decode cX8_nodeOf 119 = .ok (.istore 6, 2) := by decide +kernel
theorem dX8_nodeOf_121 : decode cX8_nodeOf 121 = .ok (.iconst 0, 1) := by decide +kernel
theorem dX8_nodeOf_122 : decode cX8_nodeOf 122 = .ok (.istore 7, 2) := by decide +kernel
theorem dX8_nodeOf_124 : decode cX8_nodeOf 124 = .ok (.iload 7, 2) := by decide +kernel
theorem dX8_nodeOf_126 : decode cX8_nodeOf 126 = .ok (.iload 5, 2) := by decide +kernel
theorem dX8_nodeOf_128 : decode cX8_nodeOf 128 = .ok (.if_icmp .ge 24, 3) := by decide +kernel
theorem dX8_nodeOf_131 : decode cX8_nodeOf 131 = .ok (.iload 6, 2) := by decide +kernel
theorem dX8_nodeOf_133 : decode cX8_nodeOf 133 = .ok (.iconst 1, 1) := by decide +kernel
theorem dX8_nodeOf_134 : decode cX8_nodeOf 134 = .ok (.aload_n 0, 1) := by decide +kernel
theorem dX8_nodeOf_135 : decode cX8_nodeOf 135 = .ok (.iload 4, 2) := by decide +kernel
theorem dX8_nodeOf_137 : decode cX8_nodeOf 137 = .ok (.iload 7, 2) := by decide +kernel
theorem dX8_nodeOf_139 : decode cX8_nodeOf 139 = .ok (.invokevirtual 88, 3) := by decide +kernel
theorem dX8_nodeOf_142 : decode cX8_nodeOf 142 = .ok (.ishl, 1) := by decide +kernel
theorem dX8_nodeOf_143 : decode cX8_nodeOf 143 = .ok (.ior, 1) := by decide +kernel
theorem dX8_nodeOf_144 : decode cX8_nodeOf 144 = .ok (.istore 6, 2) := by decide +kernel
theorem dX8_nodeOf_146 : decode cX8_nodeOf 146 = .ok (.iinc 7 1, 3) := by decide +kernel
theorem dX8_nodeOf_149 : decode cX8_nodeOf 149 = .ok (.goto (-25), 3) := by decide +kernel
theorem dX8_nodeOf_152 : decode cX8_nodeOf 152 = .ok (.iload 6, 2) := by decide +kernel
theorem dX8_nodeOf_154 : decode cX8_nodeOf 154 = .ok (.ireturn, 1) := by decide +kernel
theorem dX8_overlapsOf_0 : decode cX8_overlapsOf 0 = .ok (.aload_n 0, 1) := by decide +kernel
theorem dX8_overlapsOf_1 : decode cX8_overlapsOf 1 = .ok (.invokevirtual 126, 3) := by decide +kernel
theorem dX8_overlapsOf_4 : decode cX8_overlapsOf 4 = .ok (.aload_n 0, 1) := by decide +kernel
theorem dX8_overlapsOf_5 : decode cX8_overlapsOf 5 = .ok (.iload_n 1, 1) := by decide +kernel
theorem dX8_overlapsOf_6 : decode cX8_overlapsOf 6 = .ok (.invokevirtual 218, 3) := by decide +kernel
theorem dX8_overlapsOf_9 : decode cX8_overlapsOf 9 = .ok (.iconst 0, 1) := by decide +kernel
theorem dX8_overlapsOf_10 : decode cX8_overlapsOf 10 = .ok (.istore_n 2, 1) := by decide +kernel
theorem dX8_overlapsOf_11 : decode cX8_overlapsOf 11 = .ok (.iconst 0, 1) := by decide +kernel
theorem dX8_overlapsOf_12 : decode cX8_overlapsOf 12 = .ok (.istore_n 3, 1) := by decide +kernel
theorem dX8_overlapsOf_13 : decode cX8_overlapsOf 13 = .ok (.iload_n 3, 1) := by decide +kernel
theorem dX8_overlapsOf_14 : decode cX8_overlapsOf 14 = .ok (.aload_n 0, 1) := by decide +kernel
theorem dX8_overlapsOf_15 : decode cX8_overlapsOf 15 = .ok (.getfield 215, 3) := by decide +kernel
theorem dX8_overlapsOf_18 : decode cX8_overlapsOf 18 = .ok (.if_icmp .ge 62, 3) := by decide +kernel
theorem dX8_overlapsOf_21 : decode cX8_overlapsOf 21 = .ok (.iconst 0, 1) := by decide +kernel
theorem dX8_overlapsOf_22 : decode cX8_overlapsOf 22 = .ok (.istore 4, 2) := by decide +kernel
theorem dX8_overlapsOf_24 : decode cX8_overlapsOf 24 = .ok (.iload 4, 2) := by decide +kernel
theorem dX8_overlapsOf_26 : decode cX8_overlapsOf 26 = .ok (.iload_n 3, 1) := by decide +kernel
theorem dX8_overlapsOf_27 : decode cX8_overlapsOf 27 = .ok (.if_icmp .ge 47, 3) := by decide +kernel
theorem dX8_overlapsOf_30 : decode cX8_overlapsOf 30 = .ok (.aload_n 0, 1) := by decide +kernel
theorem dX8_overlapsOf_31 : decode cX8_overlapsOf 31 = .ok (.aload_n 0, 1) := by decide +kernel
theorem dX8_overlapsOf_32 : decode cX8_overlapsOf 32 = .ok (.getfield 28, 3) := by decide +kernel
theorem dX8_overlapsOf_35 : decode cX8_overlapsOf 35 = .ok (.aload_n 0, 1) := by decide +kernel
theorem dX8_overlapsOf_36 : decode cX8_overlapsOf 36 = .ok (.getfield 64, 3) := by decide +kernel
theorem dX8_overlapsOf_39 : decode cX8_overlapsOf 39 = .ok (.iload_n 3, 1) := by decide +kernel
theorem dX8_overlapsOf_40 : decode cX8_overlapsOf 40 = .ok (.iaload, 1) := by decide +kernel
theorem dX8_overlapsOf_41 : decode cX8_overlapsOf 41 = .ok (.iconst 1, 1) := by decide +kernel
theorem dX8_overlapsOf_42 : decode cX8_overlapsOf 42 = .ok (.invokevirtual 112, 3) := by decide +kernel
theorem dX8_overlapsOf_45 : decode cX8_overlapsOf 45 = .ok (.aload_n 0, 1) := by decide +kernel
theorem dX8_overlapsOf_46 : decode cX8_overlapsOf 46 = .ok (.aload_n 0, 1) := by decide +kernel
theorem dX8_overlapsOf_47 : decode cX8_overlapsOf 47 = .ok (.getfield 31, 3) := by decide +kernel
theorem dX8_overlapsOf_50 : decode cX8_overlapsOf 50 = .ok (.aload_n 0, 1) := by decide +kernel
theorem dX8_overlapsOf_51 : decode cX8_overlapsOf 51 = .ok (.getfield 64, 3) := by decide +kernel
theorem dX8_overlapsOf_54 : decode cX8_overlapsOf 54 = .ok (.iload 4, 2) := by decide +kernel
theorem dX8_overlapsOf_56 : decode cX8_overlapsOf 56 = .ok (.iaload, 1) := by decide +kernel
theorem dX8_overlapsOf_57 : decode cX8_overlapsOf 57 = .ok (.iconst 1, 1) := by decide +kernel
theorem dX8_overlapsOf_58 : decode cX8_overlapsOf 58 = .ok (.invokevirtual 112, 3) := by decide +kernel
theorem dX8_overlapsOf_61 : decode cX8_overlapsOf 61 = .ok (.iload_n 2, 1) := by decide +kernel
theorem dX8_overlapsOf_62 : decode cX8_overlapsOf 62 = .ok (.aload_n 0, 1) := by decide +kernel
theorem dX8_overlapsOf_63 : decode cX8_overlapsOf 63 = .ok (.invokevirtual 148, 3) := by decide +kernel
theorem dX8_overlapsOf_66 : decode cX8_overlapsOf 66 = .ok (.iadd, 1) := by decide +kernel
theorem dX8_overlapsOf_67 : decode cX8_overlapsOf 67 = .ok (.istore_n 2, 1) := by decide +kernel
theorem dX8_overlapsOf_68 : decode cX8_overlapsOf 68 = .ok (.iinc 4 1, 3) := by decide +kernel
theorem dX8_overlapsOf_71 : decode cX8_overlapsOf 71 = .ok (.goto (-47), 3) := by decide +kernel
theorem dX8_overlapsOf_74 : decode cX8_overlapsOf 74 = .ok (.iinc 3 1, 3) := by decide +kernel
theorem dX8_overlapsOf_77 : decode cX8_overlapsOf 77 = .ok (.goto (-64), 3) := by decide +kernel
theorem dX8_overlapsOf_80 : decode cX8_overlapsOf 80 = .ok (.iload_n 2, 1) := by decide +kernel
theorem dX8_overlapsOf_81 : decode cX8_overlapsOf 81 = .ok (.ireturn, 1) := by decide +kernel
theorem dX8_overlaps_0 : decode cX8_overlaps 0 = .ok (.iload_n 1, 1) := by decide +kernel
theorem dX8_overlaps_1 : decode cX8_overlaps 1 = .ok (.ifCond .ge 8, 3) := by decide +kernel
theorem dX8_overlaps_4 : decode cX8_overlaps 4 = .ok (.ldc 192, 2) := by decide +kernel
theorem dX8_overlaps_6 : decode cX8_overlaps 6 = .ok (.goto 21, 3) := by decide +kernel
theorem dX8_overlaps_9 : decode cX8_overlaps 9 = .ok (.iload_n 1, 1) := by decide +kernel
theorem dX8_overlaps_10 : decode cX8_overlaps 10 = .ok (.aload_n 0, 1) := by decide +kernel
theorem dX8_overlaps_11 : decode cX8_overlaps 11 = .ok (.invokevirtual 209, 3) := by decide +kernel
theorem dX8_overlaps_14 : decode cX8_overlaps 14 = .ok (.if_icmp .lt 8, 3) := by decide +kernel
theorem dX8_overlaps_17 : decode cX8_overlaps 17 = .ok (.ldc 221, 2) := by decide +kernel
theorem dX8_overlaps_19 : decode cX8_overlaps 19 = .ok (.goto 8, 3) := by decide +kernel
theorem dX8_overlaps_22 : decode cX8_overlaps 22 = .ok (.aload_n 0, 1) := by decide +kernel
theorem dX8_overlaps_23 : decode cX8_overlaps 23 = .ok (.iload_n 1, 1) := by decide +kernel
theorem dX8_overlaps_24 : decode cX8_overlaps 24 = .ok (.invokevirtual 225, 3) := by decide +kernel
theorem dX8_overlaps_27 : decode cX8_overlaps 27 = .ok (.ireturn, 1) := by decide +kernel
theorem dX8_overlap_0 : decode cX8_overlap 0 = .ok (.iload_n 1, 1) := by decide +kernel
theorem dX8_overlap_1 : decode cX8_overlap 1 = .ok (.invokestatic 184, 3) := by decide +kernel
theorem dX8_overlap_4 : decode cX8_overlap 4 = .ok (.ifCond .eq 10, 3) := by decide +kernel
theorem dX8_overlap_7 : decode cX8_overlap 7 = .ok (.iload_n 2, 1) := by decide +kernel
theorem dX8_overlap_8 : decode cX8_overlap 8 = .ok (.invokestatic 184, 3) := by decide +kernel
theorem dX8_overlap_11 : decode cX8_overlap 11 = .ok (.ifCond .ne 6, 3) := by decide +kernel
theorem dX8_overlap_14 : decode cX8_overlap 14 = .ok (.ldc 192, 2) := by decide +kernel
theorem dX8_overlap_16 : decode cX8_overlap 16 = .ok (.ireturn, 1) := by decide +kernel
theorem dX8_overlap_17 : decode cX8_overlap 17 = .ok (.aload_n 0, 1) := by decide +kernel
theorem dX8_overlap_18 : decode cX8_overlap 18 = .ok (.iload_n 1, 1) := by decide +kernel
theorem dX8_overlap_19 : decode cX8_overlap 19 = .ok (.invokevirtual 193, 3) := by decide +kernel
theorem dX8_overlap_22 : decode cX8_overlap 22 = .ok (.ifCond .eq 11, 3) := by decide +kernel
theorem dX8_overlap_25 : decode cX8_overlap 25 = .ok (.aload_n 0, 1) := by decide +kernel
theorem dX8_overlap_26 : decode cX8_overlap 26 = .ok (.iload_n 2, 1) := by decide +kernel
theorem dX8_overlap_27 : decode cX8_overlap 27 = .ok (.invokevirtual 193, 3) := by decide +kernel
theorem dX8_overlap_30 : decode cX8_overlap 30 = .ok (.ifCond .ne 6, 3) := by decide +kernel
theorem dX8_overlap_33 : decode cX8_overlap 33 = .ok (.ldc 221, 2) := by decide +kernel
theorem dX8_overlap_35 : decode cX8_overlap 35 = .ok (.ireturn, 1) := by decide +kernel
theorem dX8_overlap_36 : decode cX8_overlap 36 = .ok (.aload_n 0, 1) := by decide +kernel
theorem dX8_overlap_37 : decode cX8_overlap 37 = .ok (.aload_n 0, 1) := by decide +kernel
theorem dX8_overlap_38 : decode cX8_overlap 38 = .ok (.getfield 28, 3) := by decide +kernel
theorem dX8_overlap_41 : decode cX8_overlap 41 = .ok (.iload_n 1, 1) := by decide +kernel
theorem dX8_overlap_42 : decode cX8_overlap 42 = .ok (.iconst 0, 1) := by decide +kernel
theorem dX8_overlap_43 : decode cX8_overlap 43 = .ok (.invokevirtual 112, 3) := by decide +kernel
theorem dX8_overlap_46 : decode cX8_overlap 46 = .ok (.aload_n 0, 1) := by decide +kernel
theorem dX8_overlap_47 : decode cX8_overlap 47 = .ok (.aload_n 0, 1) := by decide +kernel
theorem dX8_overlap_48 : decode cX8_overlap 48 = .ok (.getfield 31, 3) := by decide +kernel
theorem dX8_overlap_51 : decode cX8_overlap 51 = .ok (.iload_n 2, 1) := by decide +kernel
theorem dX8_overlap_52 : decode cX8_overlap 52 = .ok (.iconst 0, 1) := by decide +kernel
theorem dX8_overlap_53 : decode cX8_overlap 53 = .ok (.invokevirtual 112, 3) := by decide +kernel
theorem dX8_overlap_56 : decode cX8_overlap 56 = .ok (.aload_n 0, 1) := by decide +kernel
theorem dX8_overlap_57 : decode cX8_overlap 57 = .ok (.invokevirtual 148, 3) := by decide +kernel
theorem dX8_overlap_60 : decode cX8_overlap 60 = .ok (.ireturn, 1) := by decide +kernel
theorem dX8_court__0 : decode cX8_court_ 0 = .ok (.iload_n 1, 1) := by decide +kernel
theorem dX8_court__1 : decode cX8_court_ 1 = .ok (.ifCond .lt 12, 3) := by decide +kernel
theorem dX8_court__4 : decode cX8_court_ 4 = .ok (.iload_n 2, 1) := by decide +kernel
theorem dX8_court__5 : decode cX8_court_ 5 = .ok (.iconst 0, 1) := by decide +kernel
theorem dX8_court__6 : decode cX8_court_ 6 = .ok (.iconst 1, 1) := by decide +kernel
theorem dX8_court__7 : decode cX8_court_ 7 = .ok (.invokestatic 180, 3) := by decide +kernel
theorem dX8_court__10 : decode cX8_court_ 10 = .ok (.ifCond .ne 6, 3) := by decide +kernel
theorem dX8_court__13 : decode cX8_court_ 13 = .ok (.ldc 192, 2) := by decide +kernel
theorem dX8_court__15 : decode cX8_court_ 15 = .ok (.ireturn, 1) := by decide +kernel
theorem dX8_court__16 : decode cX8_court_ 16 = .ok (.iload_n 1, 1) := by decide +kernel
theorem dX8_court__17 : decode cX8_court_ 17 = .ok (.aload_n 0, 1) := by decide +kernel
theorem dX8_court__18 : decode cX8_court_ 18 = .ok (.getfield 177, 3) := by decide +kernel
theorem dX8_court__21 : decode cX8_court_ 21 = .ok (.if_icmp .lt 8, 3) := by decide +kernel
theorem dX8_court__24 : decode cX8_court_ 24 = .ok (.ldc 221, 2) := by decide +kernel
theorem dX8_court__26 : decode cX8_court_ 26 = .ok (.goto 22, 3) := by decide +kernel
theorem dX8_court__29 : decode cX8_court_ 29 = .ok (.iload_n 2, 1) := by decide +kernel
theorem dX8_court__30 : decode cX8_court_ 30 = .ok (.ifCond .ne 12, 3) := by decide +kernel
theorem dX8_court__33 : decode cX8_court_ 33 = .ok (.aload_n 0, 1) := by decide +kernel
theorem dX8_court__34 : decode cX8_court_ 34 = .ok (.getfield 46, 3) := by decide +kernel
theorem dX8_court__37 : decode cX8_court_ 37 = .ok (.iload_n 1, 1) := by decide +kernel
theorem dX8_court__38 : decode cX8_court_ 38 = .ok (.iaload, 1) := by decide +kernel
theorem dX8_court__39 : decode cX8_court_ 39 = .ok (.goto 9, 3) := by decide +kernel
theorem dX8_court__42 : decode cX8_court_ 42 = .ok (.aload_n 0, 1) := by decide +kernel
theorem dX8_court__43 : decode cX8_court_ 43 = .ok (.getfield 49, 3) := by decide +kernel
theorem dX8_court__46 : decode cX8_court_ 46 = .ok (.iload_n 1, 1) := by decide +kernel
theorem dX8_court__47 : decode cX8_court_ 47 = .ok (.iaload, 1) := by decide +kernel
theorem dX8_court__48 : decode cX8_court_ 48 = .ok (.ireturn, 1) := by decide +kernel
theorem dX8_meets_0 : decode cX8_meets 0 = .ok (.aload_n 0, 1) := by decide +kernel
theorem dX8_meets_1 : decode cX8_meets 1 = .ok (.iload_n 1, 1) := by decide +kernel
theorem dX8_meets_2 : decode cX8_meets 2 = .ok (.iload_n 2, 1) := by decide +kernel
theorem dX8_meets_3 : decode cX8_meets 3 = .ok (.iconst 0, 1) := by decide +kernel
theorem dX8_meets_4 : decode cX8_meets 4 = .ok (.invokevirtual 92, 3) := by decide +kernel
theorem dX8_meets_7 : decode cX8_meets 7 = .ok (.iload 5, 2) := by decide +kernel
theorem dX8_meets_9 : decode cX8_meets 9 = .ok (.if_icmp .gt 42, 3) := by decide +kernel
theorem dX8_meets_12 : decode cX8_meets 12 = .ok (.aload_n 0, 1) := by decide +kernel
theorem dX8_meets_13 : decode cX8_meets 13 = .ok (.iload_n 1, 1) := by decide +kernel
theorem dX8_meets_14 : decode cX8_meets 14 = .ok (.iload_n 2, 1) := by decide +kernel
theorem dX8_meets_15 : decode cX8_meets 15 = .ok (.iconst 2, 1) := by decide +kernel
theorem dX8_meets_16 : decode cX8_meets 16 = .ok (.invokevirtual 92, 3) := by decide +kernel
theorem dX8_meets_19 : decode cX8_meets 19 = .ok (.iload_n 3, 1) := by decide +kernel
theorem dX8_meets_20 : decode cX8_meets 20 = .ok (.if_icmp .lt 31, 3) := by decide +kernel
theorem dX8_meets_23 : decode cX8_meets 23 = .ok (.aload_n 0, 1) := by decide +kernel
theorem dX8_meets_24 : decode cX8_meets 24 = .ok (.iload_n 1, 1) := by decide +kernel
theorem dX8_meets_25 : decode cX8_meets 25 = .ok (.iload_n 2, 1) := by decide +kernel
theorem dX8_meets_26 : decode cX8_meets 26 = .ok (.iconst 1, 1) := by decide +kernel
theorem dX8_meets_27 : decode cX8_meets 27 = .ok (.invokevirtual 92, 3) := by decide +kernel
theorem dX8_meets_30 : decode cX8_meets 30 = .ok (.iload 6, 2) := by decide +kernel
theorem dX8_meets_32 : decode cX8_meets 32 = .ok (.if_icmp .gt 19, 3) := by decide +kernel
theorem dX8_meets_35 : decode cX8_meets 35 = .ok (.aload_n 0, 1) := by decide +kernel
theorem dX8_meets_36 : decode cX8_meets 36 = .ok (.iload_n 1, 1) := by decide +kernel
theorem dX8_meets_37 : decode cX8_meets 37 = .ok (.iload_n 2, 1) := by decide +kernel
theorem dX8_meets_38 : decode cX8_meets 38 = .ok (.iconst 3, 1) := by decide +kernel
theorem dX8_meets_39 : decode cX8_meets 39 = .ok (.invokevirtual 92, 3) := by decide +kernel
theorem dX8_meets_42 : decode cX8_meets 42 = .ok (.iload 4, 2) := by decide +kernel
theorem dX8_meets_44 : decode cX8_meets 44 = .ok (.if_icmp .lt 7, 3) := by decide +kernel
theorem dX8_meets_47 : decode cX8_meets 47 = .ok (.iconst 1, 1) := by decide +kernel
theorem dX8_meets_48 : decode cX8_meets 48 = .ok (.goto 4, 3) := by decide +kernel
theorem dX8_meets_51 : decode cX8_meets 51 = .ok (.iconst 0, 1) := by decide +kernel
theorem dX8_meets_52 : decode cX8_meets 52 = .ok (.ireturn, 1) := by decide +kernel
theorem dX8_window_0 : decode cX8_window 0 = .ok (.iload_n 1, 1) := by decide +kernel
theorem dX8_window_1 : decode cX8_window 1 = .ok (.iload_n 2, 1) := by decide +kernel
theorem dX8_window_2 : decode cX8_window 2 = .ok (.iload_n 3, 1) := by decide +kernel
theorem dX8_window_3 : decode cX8_window 3 = .ok (.iload 4, 2) := by decide +kernel
theorem dX8_window_5 : decode cX8_window 5 = .ok (.invokestatic 188, 3) := by decide +kernel
theorem dX8_window_8 : decode cX8_window 8 = .ok (.ifCond .eq 13, 3) := by decide +kernel
theorem dX8_window_11 : decode cX8_window 11 = .ok (.iload 5, 2) := by decide +kernel
theorem dX8_window_13 : decode cX8_window 13 = .ok (.iconst 0, 1) := by decide +kernel
theorem dX8_window_14 : decode cX8_window 14 = .ok (.iconst 1, 1) := by decide +kernel
theorem dX8_window_15 : decode cX8_window 15 = .ok (.invokestatic 180, 3) := by decide +kernel
theorem dX8_window_18 : decode cX8_window 18 = .ok (.ifCond .ne 6, 3) := by decide +kernel
theorem dX8_window_21 : decode cX8_window 21 = .ok (.ldc 192, 2) := by decide +kernel
theorem dX8_window_23 : decode cX8_window 23 = .ok (.ireturn, 1) := by decide +kernel
theorem dX8_window_24 : decode cX8_window 24 = .ok (.aload_n 0, 1) := by decide +kernel
theorem dX8_window_25 : decode cX8_window 25 = .ok (.invokevirtual 126, 3) := by decide +kernel
theorem dX8_window_28 : decode cX8_window 28 = .ok (.iconst 0, 1) := by decide +kernel
theorem dX8_window_29 : decode cX8_window 29 = .ok (.istore 6, 2) := by decide +kernel
theorem dX8_window_31 : decode cX8_window 31 = .ok (.iconst 0, 1) := by decide +kernel
theorem dX8_window_32 : decode cX8_window 32 = .ok (.istore 7, 2) := by decide +kernel
theorem dX8_window_34 : decode cX8_window 34 = .ok (.iload 7, 2) := by decide +kernel
theorem dX8_window_36 : decode cX8_window 36 = .ok (.bipush 31, 2) := by decide +kernel
theorem dX8_window_38 : decode cX8_window 38 = .ok (.if_icmp .ge 46, 3) := by decide +kernel
theorem dX8_window_41 : decode cX8_window 41 = .ok (.iload 6, 2) := by decide +kernel
theorem dX8_window_43 : decode cX8_window 43 = .ok (.aload_n 0, 1) := by decide +kernel
theorem dX8_window_44 : decode cX8_window 44 = .ok (.iload 7, 2) := by decide +kernel
theorem dX8_window_46 : decode cX8_window 46 = .ok (.invokevirtual 193, 3) := by decide +kernel
theorem dX8_window_49 : decode cX8_window 49 = .ok (.ifCond .eq 25, 3) := by decide +kernel
theorem dX8_window_52 : decode cX8_window 52 = .ok (.aload_n 0, 1) := by decide +kernel
theorem dX8_window_53 : decode cX8_window 53 = .ok (.iload 7, 2) := by decide +kernel
theorem dX8_window_55 : decode cX8_window 55 = .ok (.iconst 0, 1) := by decide +kernel
theorem dX8_window_56 : decode cX8_window 56 = .ok (.iload_n 1, 1) := by decide +kernel
theorem dX8_window_57 : decode cX8_window 57 = .ok (.iload_n 2, 1) := by decide +kernel
theorem dX8_window_58 : decode cX8_window 58 = .ok (.iload_n 3, 1) := by decide +kernel
theorem dX8_window_59 : decode cX8_window 59 = .ok (.iload 4, 2) := by decide +kernel
theorem dX8_window_61 : decode cX8_window 61 = .ok (.invokevirtual 228, 3) := by decide +kernel
theorem dX8_window_64 : decode cX8_window 64 = .ok (.ifCond .eq 10, 3) := by decide +kernel
theorem dX8_window_67 : decode cX8_window 67 = .ok (.iconst 1, 1) := by decide +kernel
theorem dX8_window_68 : decode cX8_window 68 = .ok (.iload 7, 2) := by decide +kernel
theorem dX8_window_70 : decode cX8_window 70 = .ok (.ishl, 1) := by decide +kernel
theorem dX8_window_71 : decode cX8_window 71 = .ok (.goto 4, 3) := by decide +kernel
theorem dX8_window_74 : decode cX8_window 74 = .ok (.iconst 0, 1) := by decide +kernel
theorem dX8_window_75 : decode cX8_window 75 = .ok (.ior, 1) := by decide +kernel
theorem dX8_window_76 : decode cX8_window 76 = .ok (.istore 6, 2) := by decide +kernel
theorem dX8_window_78 : decode cX8_window 78 = .ok (.iinc 7 1, 3) := by decide +kernel
theorem dX8_window_81 : decode cX8_window 81 = .ok (.goto (-47), 3) := by decide +kernel
theorem dX8_window_84 : decode cX8_window 84 = .ok (.iconst 0, 1) := by decide +kernel
theorem dX8_window_85 : decode cX8_window 85 = .ok (.istore 7, 2) := by decide +kernel
theorem dX8_window_87 : decode cX8_window 87 = .ok (.iconst 0, 1) := by decide +kernel
theorem dX8_window_88 : decode cX8_window 88 = .ok (.istore 8, 2) := by decide +kernel
theorem dX8_window_90 : decode cX8_window 90 = .ok (.iload 8, 2) := by decide +kernel
theorem dX8_window_92 : decode cX8_window 92 = .ok (.bipush 40, 2) := by decide +kernel
theorem dX8_window_94 : decode cX8_window 94 = .ok (.if_icmp .ge 53, 3) := by decide +kernel
theorem dX8_window_97 : decode cX8_window 97 = .ok (.iload 7, 2) := by decide +kernel
theorem dX8_window_99 : decode cX8_window 99 = .ok (.aload_n 0, 1) := by decide +kernel
theorem dX8_window_100 : decode cX8_window 100 = .ok (.iload 8, 2) := by decide +kernel
theorem dX8_window_102 : decode cX8_window 102 = .ok (.invokevirtual 81, 3) := by decide +kernel
theorem dX8_window_105 : decode cX8_window 105 = .ok (.iconst (-1), 1) := by decide +kernel
theorem dX8_window_106 : decode cX8_window 106 = .ok (.if_icmp .eq 31, 3) := by decide +kernel
theorem dX8_window_109 : decode cX8_window 109 = .ok (.aload_n 0, 1) := by decide +kernel
theorem dX8_window_110 : decode cX8_window 110 = .ok (.iload 8, 2) := by decide +kernel
theorem dX8_window_112 : decode cX8_window 112 = .ok (.invokevirtual 85, 3) := by decide +kernel
theorem dX8_window_115 : decode cX8_window 115 = .ok (.ifCond .le 22, 3) := by decide +kernel
theorem dX8_window_118 : decode cX8_window 118 = .ok (.aload_n 0, 1) := by decide +kernel
theorem dX8_window_119 : decode cX8_window 119 = .ok (.iload 8, 2) := by decide +kernel
theorem dX8_window_121 : decode cX8_window 121 = .ok (.iconst 1, 1) := by decide +kernel
theorem dX8_window_122 : decode cX8_window 122 = .ok (.iload_n 1, 1) := by decide +kernel
theorem dX8_window_123 : decode cX8_window 123 = .ok (.iload_n 2, 1) := by decide +kernel
theorem dX8_window_124 : decode cX8_window 124 = .ok (.iload_n 3, 1) := by decide +kernel
theorem dX8_window_125 : decode cX8_window 125 = .ok (.iload 4, 2) := by decide +kernel
theorem dX8_window_127 : decode cX8_window 127 = .ok (.invokevirtual 228, 3) := by decide +kernel
theorem dX8_window_130 : decode cX8_window 130 = .ok (.ifCond .eq 7, 3) := by decide +kernel
theorem dX8_window_133 : decode cX8_window 133 = .ok (.iconst 1, 1) := by decide +kernel
theorem dX8_window_134 : decode cX8_window 134 = .ok (.goto 4, 3) := by decide +kernel
theorem dX8_window_137 : decode cX8_window 137 = .ok (.iconst 0, 1) := by decide +kernel
theorem dX8_window_138 : decode cX8_window 138 = .ok (.iadd, 1) := by decide +kernel
theorem dX8_window_139 : decode cX8_window 139 = .ok (.istore 7, 2) := by decide +kernel
theorem dX8_window_141 : decode cX8_window 141 = .ok (.iinc 8 1, 3) := by decide +kernel
theorem dX8_window_144 : decode cX8_window 144 = .ok (.goto (-54), 3) := by decide +kernel
theorem dX8_window_147 : decode cX8_window 147 = .ok (.iload 5, 2) := by decide +kernel
theorem dX8_window_149 : decode cX8_window 149 = .ok (.ifCond .ne 8, 3) := by decide +kernel
theorem dX8_window_152 : decode cX8_window 152 = .ok (.iload 6, 2) := by decide +kernel
theorem dX8_window_154 : decode cX8_window 154 = .ok (.goto 5, 3) := by decide +kernel
theorem dX8_window_157 : decode cX8_window 157 = .ok (.iload 7, 2) := by decide +kernel
theorem dX8_window_159 : decode cX8_window 159 = .ok (.ireturn, 1) := by decide +kernel
theorem dX8_distance_0 : decode cX8_distance 0 = .ok (.iconst 0, 1) := by decide +kernel
theorem dX8_distance_1 : decode cX8_distance 1 = .ok (.aload_n 0, 1) := by decide +kernel
theorem dX8_distance_2 : decode cX8_distance 2 = .ok (.iload_n 1, 1) := by decide +kernel
theorem dX8_distance_3 : decode cX8_distance 3 = .ok (.iload_n 2, 1) := by decide +kernel
theorem dX8_distance_4 : decode cX8_distance 4 = .ok (.iconst 0, 1) := by decide +kernel
theorem dX8_distance_5 : decode cX8_distance 5 = .ok (.invokevirtual 92, 3) := by decide +kernel
theorem dX8_distance_8 : decode cX8_distance 8 = .ok (.iload_n 3, 1) := by decide +kernel
theorem dX8_distance_9 : decode cX8_distance 9 = .ok (.isub, 1) := by decide +kernel
theorem dX8_distance_10 : decode cX8_distance 10 = .ok (.iload_n 3, 1) := by decide +kernel
theorem dX8_distance_11 : decode cX8_distance 11 = .ok (.aload_n 0, 1) := by decide +kernel
theorem dX8_distance_12 : decode cX8_distance 12 = .ok (.iload_n 1, 1) := by decide +kernel
theorem dX8_distance_13 : decode cX8_distance 13 = .ok (.iload_n 2, 1) := by decide +kernel
theorem dX8_distance_14 : decode cX8_distance 14 = .ok (.iconst 2, 1) := by decide +kernel
theorem dX8_distance_15 : decode cX8_distance 15 = .ok (.invokevirtual 92, 3) := by decide +kernel
theorem dX8_distance_18 : decode cX8_distance 18 = .ok (.isub, 1) := by decide +kernel
theorem dX8_distance_19 : decode cX8_distance 19 = .ok (.invokestatic 99, 3) := by decide +kernel
theorem dX8_distance_22 : decode cX8_distance 22 = .ok (.invokestatic 99, 3) := by decide +kernel
theorem dX8_distance_25 : decode cX8_distance 25 = .ok (.istore 5, 2) := by decide +kernel
theorem dX8_distance_27 : decode cX8_distance 27 = .ok (.iconst 0, 1) := by decide +kernel
theorem dX8_distance_28 : decode cX8_distance 28 = .ok (.aload_n 0, 1) := by decide +kernel
theorem dX8_distance_29 : decode cX8_distance 29 = .ok (.iload_n 1, 1) := by decide +kernel
theorem dX8_distance_30 : decode cX8_distance 30 = .ok (.iload_n 2, 1) := by decide +kernel
theorem dX8_distance_31 : decode cX8_distance 31 = .ok (.iconst 1, 1) := by decide +kernel
theorem dX8_distance_32 : decode cX8_distance 32 = .ok (.invokevirtual 92, 3) := by decide +kernel
theorem dX8_distance_35 : decode cX8_distance 35 = .ok (.iload 4, 2) := by decide +kernel
theorem dX8_distance_37 : decode cX8_distance 37 = .ok (.isub, 1) := by decide +kernel
theorem dX8_distance_38 : decode cX8_distance 38 = .ok (.iload 4, 2) := by decide +kernel
theorem dX8_distance_40 : decode cX8_distance 40 = .ok (.aload_n 0, 1) := by decide +kernel
theorem dX8_distance_41 : decode cX8_distance 41 = .ok (.iload_n 1, 1) := by decide +kernel
theorem dX8_distance_42 : decode cX8_distance 42 = .ok (.iload_n 2, 1) := by decide +kernel
theorem dX8_distance_43 : decode cX8_distance 43 = .ok (.iconst 3, 1) := by decide +kernel
theorem dX8_distance_44 : decode cX8_distance 44 = .ok (.invokevirtual 92, 3) := by decide +kernel
theorem dX8_distance_47 : decode cX8_distance 47 = .ok (.isub, 1) := by decide +kernel
theorem dX8_distance_48 : decode cX8_distance 48 = .ok (.invokestatic 99, 3) := by decide +kernel
theorem dX8_distance_51 : decode cX8_distance 51 = .ok (.invokestatic 99, 3) := by decide +kernel
theorem dX8_distance_54 : decode cX8_distance 54 = .ok (.istore 6, 2) := by decide +kernel
theorem dX8_distance_56 : decode cX8_distance 56 = .ok (.iload 5, 2) := by decide +kernel
theorem dX8_distance_58 : decode cX8_distance 58 = .ok (.iload 5, 2) := by decide +kernel
theorem dX8_distance_60 : decode cX8_distance 60 = .ok (.imul, 1) := by decide +kernel
theorem dX8_distance_61 : decode cX8_distance 61 = .ok (.iload 6, 2) := by decide +kernel
theorem dX8_distance_63 : decode cX8_distance 63 = .ok (.iload 6, 2) := by decide +kernel
theorem dX8_distance_65 : decode cX8_distance 65 = .ok (.imul, 1) := by decide +kernel
theorem dX8_distance_66 : decode cX8_distance 66 = .ok (.iadd, 1) := by decide +kernel
theorem dX8_distance_67 : decode cX8_distance 67 = .ok (.ireturn, 1) := by decide +kernel
theorem dX8_nearest_0 : decode cX8_nearest 0 = .ok (.iload_n 1, 1) := by decide +kernel
theorem dX8_nearest_1 : decode cX8_nearest 1 = .ok (.iconst 0, 1) := by decide +kernel
theorem dX8_nearest_2 : decode cX8_nearest 2 = .ok (.bipush 99, 2) := by decide +kernel
theorem dX8_nearest_4 : decode cX8_nearest 4 = .ok (.invokestatic 180, 3) := by decide +kernel
theorem dX8_nearest_7 : decode cX8_nearest 7 = .ok (.ifCond .eq 27, 3) := by decide +kernel
theorem dX8_nearest_10 : decode cX8_nearest 10 = .ok (.iload_n 2, 1) := by decide +kernel
theorem dX8_nearest_11 : decode cX8_nearest 11 = .ok (.iconst 0, 1) := by decide +kernel
theorem dX8_nearest_12 : decode cX8_nearest 12 = .ok (.bipush 99, 2) := by decide +kernel
theorem dX8_nearest_14 : decode cX8_nearest 14 = .ok (.invokestatic 180, 3) := by decide +kernel
theorem dX8_nearest_17 : decode cX8_nearest 17 = .ok (.ifCond .eq 17, 3) := by decide +kernel
theorem dX8_nearest_20 : decode cX8_nearest 20 = .ok (.iload_n 3, 1) := by decide +kernel
theorem dX8_nearest_21 : decode cX8_nearest 21 = .ok (.ifCond .lt 13, 3) := by decide +kernel
theorem dX8_nearest_24 : decode cX8_nearest 24 = .ok (.iload 4, 2) := by decide +kernel
theorem dX8_nearest_26 : decode cX8_nearest 26 = .ok (.iconst 0, 1) := by decide +kernel
theorem dX8_nearest_27 : decode cX8_nearest 27 = .ok (.iconst 2, 1) := by decide +kernel
theorem dX8_nearest_28 : decode cX8_nearest 28 = .ok (.invokestatic 180, 3) := by decide +kernel
theorem dX8_nearest_31 : decode cX8_nearest 31 = .ok (.ifCond .ne 6, 3) := by decide +kernel
theorem dX8_nearest_34 : decode cX8_nearest 34 = .ok (.ldc 192, 2) := by decide +kernel
theorem dX8_nearest_36 : decode cX8_nearest 36 = .ok (.ireturn, 1) := by decide +kernel
theorem dX8_nearest_37 : decode cX8_nearest 37 = .ok (.iconst (-1), 1) := by decide +kernel
theorem dX8_nearest_38 : decode cX8_nearest 38 = .ok (.istore 5, 2) := by decide +kernel
theorem dX8_nearest_40 : decode cX8_nearest 40 = .ok (.iconst 0, 1) := by decide +kernel
theorem dX8_nearest_41 : decode cX8_nearest 41 = .ok (.istore 6, 2) := by decide +kernel
theorem dX8_nearest_43 : decode cX8_nearest 43 = .ok (.iload 6, 2) := by decide +kernel
theorem dX8_nearest_45 : decode cX8_nearest 45 = .ok (.bipush 31, 2) := by decide +kernel
theorem dX8_nearest_47 : decode cX8_nearest 47 = .ok (.if_icmp .ge 122, 3) := by decide +kernel
theorem dX8_nearest_50 : decode cX8_nearest 50 = .ok (.iconst 0, 1) := by decide +kernel
theorem dX8_nearest_51 : decode cX8_nearest 51 = .ok (.istore 7, 2) := by decide +kernel
theorem dX8_nearest_53 : decode cX8_nearest 53 = .ok (.iconst 0, 1) := by decide +kernel
theorem dX8_nearest_54 : decode cX8_nearest 54 = .ok (.istore 8, 2) := by decide +kernel
theorem dX8_nearest_56 : decode cX8_nearest 56 = .ok (.iload 8, 2) := by decide +kernel
theorem dX8_nearest_58 : decode cX8_nearest 58 = .ok (.bipush 31, 2) := by decide +kernel
theorem dX8_nearest_60 : decode cX8_nearest 60 = .ok (.if_icmp .ge 79, 3) := by decide +kernel
theorem dX8_nearest_63 : decode cX8_nearest 63 = .ok (.aload_n 0, 1) := by decide +kernel
theorem dX8_nearest_64 : decode cX8_nearest 64 = .ok (.iload 6, 2) := by decide +kernel
theorem dX8_nearest_66 : decode cX8_nearest 66 = .ok (.invokevirtual 193, 3) := by decide +kernel
theorem dX8_nearest_69 : decode cX8_nearest 69 = .ok (.ifCond .eq 70, 3) := by decide +kernel
theorem dX8_nearest_72 : decode cX8_nearest 72 = .ok (.aload_n 0, 1) := by decide +kernel
theorem dX8_nearest_73 : decode cX8_nearest 73 = .ok (.iload 8, 2) := by decide +kernel
theorem dX8_nearest_75 : decode cX8_nearest 75 = .ok (.invokevirtual 193, 3) := by decide +kernel
theorem dX8_nearest_78 : decode cX8_nearest 78 = .ok (.ifCond .eq 25, 3) := by decide +kernel
theorem dX8_nearest_81 : decode cX8_nearest 81 = .ok (.aload_n 0, 1) := by decide +kernel
theorem dX8_nearest_82 : decode cX8_nearest 82 = .ok (.iload 8, 2) := by decide +kernel
theorem dX8_nearest_84 : decode cX8_nearest 84 = .ok (.iconst 0, 1) := by decide +kernel
theorem dX8_nearest_85 : decode cX8_nearest 85 = .ok (.iload_n 1, 1) := by decide +kernel
theorem dX8_nearest_86 : decode cX8_nearest 86 = .ok (.iload_n 2, 1) := by decide +kernel
theorem dX8_nearest_87 : decode cX8_nearest 87 = .ok (.invokevirtual 232, 3) := by decide +kernel
theorem dX8_nearest_90 : decode cX8_nearest 90 = .ok (.aload_n 0, 1) := by decide +kernel
theorem dX8_nearest_91 : decode cX8_nearest 91 = .ok (.iload 6, 2) := by decide +kernel
theorem dX8_nearest_93 : decode cX8_nearest 93 = .ok (.iconst 0, 1) := by decide +kernel
theorem dX8_nearest_94 : decode cX8_nearest 94 = .ok (.iload_n 1, 1) := by decide +kernel
theorem dX8_nearest_95 : decode cX8_nearest 95 = .ok (.iload_n 2, 1) := by decide +kernel
theorem dX8_nearest_96 : decode cX8_nearest 96 = .ok (.invokevirtual 232, 3) := by decide +kernel
theorem dX8_nearest_99 : decode cX8_nearest 99 = .ok (.isub, 1) := by decide +kernel
theorem dX8_nearest_100 : decode cX8_nearest 100 = .ok (.goto 4, 3) := by decide +kernel
theorem dX8_nearest_103 : decode cX8_nearest 103 = .ok (.iconst 1, 1) := by decide +kernel
theorem dX8_nearest_104 : decode cX8_nearest 104 = .ok (.istore 9, 2) := by decide +kernel
theorem dX8_nearest_106 : decode cX8_nearest 106 = .ok (.iload 7, 2) := by decide +kernel
theorem dX8_nearest_108 : decode cX8_nearest 108 = .ok (.iload 9, 2) := by decide +kernel
theorem dX8_nearest_110 : decode cX8_nearest 110 = .ok (.ifCond .lt 15, 3) := by decide +kernel
theorem dX8_nearest_113 : decode cX8_nearest 113 = .ok (.iload 9, 2) := by decide +kernel
theorem dX8_nearest_115 : decode cX8_nearest 115 = .ok (.ifCond .ne 14, 3) := by decide +kernel
theorem dX8_nearest_118 : decode cX8_nearest 118 = .ok (.iload 8, 2) := by decide +kernel
theorem dX8_nearest_120 : decode cX8_nearest 120 = .ok (.iload 6, 2) := by decide +kernel
theorem dX8_nearest_122 : decode cX8_nearest 122 = .ok (.if_icmp .ge 7, 3) := by decide +kernel
theorem dX8_nearest_125 : decode cX8_nearest 125 = .ok (.iconst 1, 1) := by decide +kernel
theorem dX8_nearest_126 : decode cX8_nearest 126 = .ok (.goto 4, 3) := by decide +kernel
theorem dX8_nearest_129 : decode cX8_nearest 129 = .ok (.iconst 0, 1) := by decide +kernel
theorem dX8_nearest_130 : decode cX8_nearest 130 = .ok (.iadd, 1) := by decide +kernel
theorem dX8_nearest_131 : decode cX8_nearest 131 = .ok (.istore 7, 2) := by decide +kernel
theorem dX8_nearest_133 : decode cX8_nearest 133 = .ok (.iinc 8 1, 3) := by decide +kernel
theorem dX8_nearest_136 : decode cX8_nearest 136 = .ok (.goto (-80), 3) := by decide +kernel
theorem dX8_nearest_139 : decode cX8_nearest 139 = .ok (.aload_n 0, 1) := by decide +kernel
theorem dX8_nearest_140 : decode cX8_nearest 140 = .ok (.iload 6, 2) := by decide +kernel
theorem dX8_nearest_142 : decode cX8_nearest 142 = .ok (.invokevirtual 193, 3) := by decide +kernel
theorem dX8_nearest_145 : decode cX8_nearest 145 = .ok (.ifCond .eq 14, 3) := by decide +kernel
theorem dX8_nearest_148 : decode cX8_nearest 148 = .ok (.iload 7, 2) := by decide +kernel
theorem dX8_nearest_150 : decode cX8_nearest 150 = .ok (.iload_n 3, 1) := by decide +kernel
theorem dX8_nearest_151 : decode cX8_nearest 151 = .ok (.if_icmp .ne 8, 3) := by decide +kernel
theorem dX8_nearest_154 : decode cX8_nearest 154 = .ok (.iload 6, 2) := by decide +kernel
theorem dX8_nearest_156 : decode cX8_nearest 156 = .ok (.goto 5, 3) := by decide +kernel
theorem dX8_nearest_159 : decode cX8_nearest 159 = .ok (.iload 5, 2) := by decide +kernel
theorem dX8_nearest_161 : decode cX8_nearest 161 = .ok (.istore 5, 2) := by decide +kernel
theorem dX8_nearest_163 : decode cX8_nearest 163 = .ok (.iinc 6 1, 3) := by decide +kernel
theorem dX8_nearest_166 : decode cX8_nearest 166 = .ok (.goto (-123), 3) := by decide +kernel
theorem dX8_nearest_169 : decode cX8_nearest 169 = .ok (.iload 5, 2) := by decide +kernel
theorem dX8_nearest_171 : decode cX8_nearest 171 = .ok (.iconst (-1), 1) := by decide +kernel
theorem dX8_nearest_172 : decode cX8_nearest 172 = .ok (.if_icmp .ne 6, 3) := by decide +kernel
theorem dX8_nearest_175 : decode cX8_nearest 175 = .ok (.ldc 221, 2) := by decide +kernel
theorem dX8_nearest_177 : decode cX8_nearest 177 = .ok (.ireturn, 1) := by decide +kernel
theorem dX8_nearest_178 : decode cX8_nearest 178 = .ok (.aload_n 0, 1) := by decide +kernel
theorem dX8_nearest_179 : decode cX8_nearest 179 = .ok (.iload 5, 2) := by decide +kernel
theorem dX8_nearest_181 : decode cX8_nearest 181 = .ok (.iconst 0, 1) := by decide +kernel
theorem dX8_nearest_182 : decode cX8_nearest 182 = .ok (.iload_n 1, 1) := by decide +kernel
theorem dX8_nearest_183 : decode cX8_nearest 183 = .ok (.iload_n 2, 1) := by decide +kernel
theorem dX8_nearest_184 : decode cX8_nearest 184 = .ok (.invokevirtual 232, 3) := by decide +kernel
theorem dX8_nearest_187 : decode cX8_nearest 187 = .ok (.istore 6, 2) := by decide +kernel
theorem dX8_nearest_189 : decode cX8_nearest 189 = .ok (.aload_n 0, 1) := by decide +kernel
theorem dX8_nearest_190 : decode cX8_nearest 190 = .ok (.invokevirtual 126, 3) := by decide +kernel
theorem dX8_nearest_193 : decode cX8_nearest 193 = .ok (.iconst 0, 1) := by decide +kernel
theorem dX8_nearest_194 : decode cX8_nearest 194 = .ok (.istore 7, 2) := by decide +kernel
theorem dX8_nearest_196 : decode cX8_nearest 196 = .ok (.iconst 0, 1) := by decide +kernel
theorem dX8_nearest_197 : decode cX8_nearest 197 = .ok (.istore 8, 2) := by decide +kernel
theorem dX8_nearest_199 : decode cX8_nearest 199 = .ok (.iload 8, 2) := by decide +kernel
theorem dX8_nearest_201 : decode cX8_nearest 201 = .ok (.bipush 40, 2) := by decide +kernel
theorem dX8_nearest_203 : decode cX8_nearest 203 = .ok (.if_icmp .ge 52, 3) := by decide +kernel
theorem dX8_nearest_206 : decode cX8_nearest 206 = .ok (.iload 7, 2) := by decide +kernel
theorem dX8_nearest_208 : decode cX8_nearest 208 = .ok (.aload_n 0, 1) := by decide +kernel
theorem dX8_nearest_209 : decode cX8_nearest 209 = .ok (.iload 8, 2) := by decide +kernel
theorem dX8_nearest_211 : decode cX8_nearest 211 = .ok (.invokevirtual 81, 3) := by decide +kernel
theorem dX8_nearest_214 : decode cX8_nearest 214 = .ok (.iconst (-1), 1) := by decide +kernel
theorem dX8_nearest_215 : decode cX8_nearest 215 = .ok (.if_icmp .eq 30, 3) := by decide +kernel
theorem dX8_nearest_218 : decode cX8_nearest 218 = .ok (.aload_n 0, 1) := by decide +kernel
theorem dX8_nearest_219 : decode cX8_nearest 219 = .ok (.iload 8, 2) := by decide +kernel
theorem dX8_nearest_221 : decode cX8_nearest 221 = .ok (.invokevirtual 85, 3) := by decide +kernel
theorem dX8_nearest_224 : decode cX8_nearest 224 = .ok (.ifCond .le 21, 3) := by decide +kernel
theorem dX8_nearest_227 : decode cX8_nearest 227 = .ok (.aload_n 0, 1) := by decide +kernel
theorem dX8_nearest_228 : decode cX8_nearest 228 = .ok (.iload 8, 2) := by decide +kernel
theorem dX8_nearest_230 : decode cX8_nearest 230 = .ok (.iconst 1, 1) := by decide +kernel
theorem dX8_nearest_231 : decode cX8_nearest 231 = .ok (.iload_n 1, 1) := by decide +kernel
theorem dX8_nearest_232 : decode cX8_nearest 232 = .ok (.iload_n 2, 1) := by decide +kernel
theorem dX8_nearest_233 : decode cX8_nearest 233 = .ok (.invokevirtual 232, 3) := by decide +kernel
theorem dX8_nearest_236 : decode cX8_nearest 236 = .ok (.iload 6, 2) := by decide +kernel
theorem dX8_nearest_238 : decode cX8_nearest 238 = .ok (.if_icmp .gt 7, 3) := by decide +kernel
theorem dX8_nearest_241 : decode cX8_nearest 241 = .ok (.iconst 1, 1) := by decide +kernel
theorem dX8_nearest_242 : decode cX8_nearest 242 = .ok (.goto 4, 3) := by decide +kernel
theorem dX8_nearest_245 : decode cX8_nearest 245 = .ok (.iconst 0, 1) := by decide +kernel
theorem dX8_nearest_246 : decode cX8_nearest 246 = .ok (.iadd, 1) := by decide +kernel
theorem dX8_nearest_247 : decode cX8_nearest 247 = .ok (.istore 7, 2) := by decide +kernel
theorem dX8_nearest_249 : decode cX8_nearest 249 = .ok (.iinc 8 1, 3) := by decide +kernel
theorem dX8_nearest_252 : decode cX8_nearest 252 = .ok (.goto (-53), 3) := by decide +kernel
theorem dX8_nearest_255 : decode cX8_nearest 255 = .ok (.iload 4, 2) := by decide +kernel
theorem dX8_nearest_257 : decode cX8_nearest 257 = .ok (.ifCond .ne 8, 3) := by decide +kernel
theorem dX8_nearest_260 : decode cX8_nearest 260 = .ok (.iload 5, 2) := by decide +kernel
theorem dX8_nearest_262 : decode cX8_nearest 262 = .ok (.goto 16, 3) := by decide +kernel
theorem dX8_nearest_265 : decode cX8_nearest 265 = .ok (.iload 4, 2) := by decide +kernel
theorem dX8_nearest_267 : decode cX8_nearest 267 = .ok (.iconst 1, 1) := by decide +kernel
theorem dX8_nearest_268 : decode cX8_nearest 268 = .ok (.if_icmp .ne 8, 3) := by decide +kernel
theorem dX8_nearest_271 : decode cX8_nearest 271 = .ok (.iload 6, 2) := by decide +kernel
theorem dX8_nearest_273 : decode cX8_nearest 273 = .ok (.goto 5, 3) := by decide +kernel
theorem dX8_nearest_276 : decode cX8_nearest 276 = .ok (.iload 7, 2) := by decide +kernel
theorem dX8_nearest_278 : decode cX8_nearest 278 = .ok (.ireturn, 1) := by decide +kernel
theorem dX8_would_0 : decode cX8_would 0 = .ok (.iload_n 1, 1) := by decide +kernel
theorem dX8_would_1 : decode cX8_would 1 = .ok (.iload_n 2, 1) := by decide +kernel
theorem dX8_would_2 : decode cX8_would 2 = .ok (.iload_n 3, 1) := by decide +kernel
theorem dX8_would_3 : decode cX8_would 3 = .ok (.iload 4, 2) := by decide +kernel
theorem dX8_would_5 : decode cX8_would 5 = .ok (.invokestatic 188, 3) := by decide +kernel
theorem dX8_would_8 : decode cX8_would 8 = .ok (.ifCond .eq 13, 3) := by decide +kernel
theorem dX8_would_11 : decode cX8_would 11 = .ok (.iload 5, 2) := by decide +kernel
theorem dX8_would_13 : decode cX8_would 13 = .ok (.iconst 0, 1) := by decide +kernel
theorem dX8_would_14 : decode cX8_would 14 = .ok (.iconst 4, 1) := by decide +kernel
theorem dX8_would_15 : decode cX8_would 15 = .ok (.invokestatic 180, 3) := by decide +kernel
theorem dX8_would_18 : decode cX8_would 18 = .ok (.ifCond .ne 6, 3) := by decide +kernel
theorem dX8_would_21 : decode cX8_would 21 = .ok (.ldc 192, 2) := by decide +kernel
theorem dX8_would_23 : decode cX8_would 23 = .ok (.ireturn, 1) := by decide +kernel
theorem dX8_would_24 : decode cX8_would 24 = .ok (.iconst 0, 1) := by decide +kernel
theorem dX8_would_25 : decode cX8_would 25 = .ok (.istore 6, 2) := by decide +kernel
theorem dX8_would_27 : decode cX8_would 27 = .ok (.iload 6, 2) := by decide +kernel
theorem dX8_would_29 : decode cX8_would 29 = .ok (.bipush 31, 2) := by decide +kernel
theorem dX8_would_31 : decode cX8_would 31 = .ok (.if_icmp .ge 18, 3) := by decide +kernel
theorem dX8_would_34 : decode cX8_would 34 = .ok (.aload_n 0, 1) := by decide +kernel
theorem dX8_would_35 : decode cX8_would 35 = .ok (.iload 6, 2) := by decide +kernel
theorem dX8_would_37 : decode cX8_would 37 = .ok (.invokevirtual 193, 3) := by decide +kernel
theorem dX8_would_40 : decode cX8_would 40 = .ok (.ifCond .eq 9, 3) := by decide +kernel
theorem dX8_would_43 : decode cX8_would 43 = .ok (.iinc 6 1, 3) := by decide +kernel
theorem dX8_would_46 : decode cX8_would 46 = .ok (.goto (-19), 3) := by decide +kernel
theorem dX8_would_49 : decode cX8_would 49 = .ok (.iload 6, 2) := by decide +kernel
theorem dX8_would_51 : decode cX8_would 51 = .ok (.bipush 31, 2) := by decide +kernel
theorem dX8_would_53 : decode cX8_would 53 = .ok (.if_icmp .ne 6, 3) := by decide +kernel
theorem dX8_would_56 : decode cX8_would 56 = .ok (.ldc 80, 2) := by decide +kernel
theorem dX8_would_58 : decode cX8_would 58 = .ok (.ireturn, 1) := by decide +kernel
theorem dX8_would_59 : decode cX8_would 59 = .ok (.aload_n 0, 1) := by decide +kernel
theorem dX8_would_60 : decode cX8_would 60 = .ok (.invokevirtual 196, 3) := by decide +kernel
theorem dX8_would_63 : decode cX8_would 63 = .ok (.aload_n 0, 1) := by decide +kernel
theorem dX8_would_64 : decode cX8_would 64 = .ok (.getfield 7, 3) := by decide +kernel
theorem dX8_would_67 : decode cX8_would 67 = .ok (.bipush 35, 2) := by decide +kernel
theorem dX8_would_69 : decode cX8_would 69 = .ok (.iconst 4, 1) := by decide +kernel
theorem dX8_would_70 : decode cX8_would 70 = .ok (.iload 6, 2) := by decide +kernel
theorem dX8_would_72 : decode cX8_would 72 = .ok (.imul, 1) := by decide +kernel
theorem dX8_would_73 : decode cX8_would 73 = .ok (.iadd, 1) := by decide +kernel
theorem dX8_would_74 : decode cX8_would 74 = .ok (.iload_n 1, 1) := by decide +kernel
theorem dX8_would_75 : decode cX8_would 75 = .ok (.iastore, 1) := by decide +kernel
theorem dX8_would_76 : decode cX8_would 76 = .ok (.aload_n 0, 1) := by decide +kernel
theorem dX8_would_77 : decode cX8_would 77 = .ok (.getfield 7, 3) := by decide +kernel
theorem dX8_would_80 : decode cX8_would 80 = .ok (.bipush 35, 2) := by decide +kernel
theorem dX8_would_82 : decode cX8_would 82 = .ok (.iconst 4, 1) := by decide +kernel
theorem dX8_would_83 : decode cX8_would 83 = .ok (.iload 6, 2) := by decide +kernel
theorem dX8_would_85 : decode cX8_would 85 = .ok (.imul, 1) := by decide +kernel
theorem dX8_would_86 : decode cX8_would 86 = .ok (.iadd, 1) := by decide +kernel
theorem dX8_would_87 : decode cX8_would 87 = .ok (.iconst 1, 1) := by decide +kernel
theorem dX8_would_88 : decode cX8_would 88 = .ok (.iadd, 1) := by decide +kernel
theorem dX8_would_89 : decode cX8_would 89 = .ok (.iload_n 2, 1) := by decide +kernel
theorem dX8_would_90 : decode cX8_would 90 = .ok (.iastore, 1) := by decide +kernel
theorem dX8_would_91 : decode cX8_would 91 = .ok (.aload_n 0, 1) := by decide +kernel
theorem dX8_would_92 : decode cX8_would 92 = .ok (.getfield 7, 3) := by decide +kernel
theorem dX8_would_95 : decode cX8_would 95 = .ok (.bipush 35, 2) := by decide +kernel
theorem dX8_would_97 : decode cX8_would 97 = .ok (.iconst 4, 1) := by decide +kernel
theorem dX8_would_98 : decode cX8_would 98 = .ok (.iload 6, 2) := by decide +kernel
theorem dX8_would_100 : decode cX8_would 100 = .ok (.imul, 1) := by decide +kernel
theorem dX8_would_101 : decode cX8_would 101 = .ok (.iadd, 1) := by decide +kernel
theorem dX8_would_102 : decode cX8_would 102 = .ok (.iconst 2, 1) := by decide +kernel
theorem dX8_would_103 : decode cX8_would 103 = .ok (.iadd, 1) := by decide +kernel
theorem dX8_would_104 : decode cX8_would 104 = .ok (.iload_n 3, 1) := by decide +kernel
theorem dX8_would_105 : decode cX8_would 105 = .ok (.iastore, 1) := by decide +kernel
theorem dX8_would_106 : decode cX8_would 106 = .ok (.aload_n 0, 1) := by decide +kernel
theorem dX8_would_107 : decode cX8_would 107 = .ok (.getfield 7, 3) := by decide +kernel
theorem dX8_would_110 : decode cX8_would 110 = .ok (.bipush 35, 2) := by decide +kernel
theorem dX8_would_112 : decode cX8_would 112 = .ok (.iconst 4, 1) := by decide +kernel
theorem dX8_would_113 : decode cX8_would 113 = .ok (.iload 6, 2) := by decide +kernel
theorem dX8_would_115 : decode cX8_would 115 = .ok (.imul, 1) := by decide +kernel
theorem dX8_would_116 : decode cX8_would 116 = .ok (.iadd, 1) := by decide +kernel
theorem dX8_would_117 : decode cX8_would 117 = .ok (.iconst 3, 1) := by decide +kernel
theorem dX8_would_118 : decode cX8_would 118 = .ok (.iadd, 1) := by decide +kernel
theorem dX8_would_119 : decode cX8_would 119 = .ok (.iload 4, 2) := by decide +kernel
theorem dX8_would_121 : decode cX8_would 121 = .ok (.iastore, 1) := by decide +kernel
theorem dX8_would_122 : decode cX8_would 122 = .ok (.aload_n 0, 1) := by decide +kernel
theorem dX8_would_123 : decode cX8_would 123 = .ok (.invokevirtual 126, 3) := by decide +kernel
theorem dX8_would_126 : decode cX8_would 126 = .ok (.aload_n 0, 1) := by decide +kernel
theorem dX8_would_127 : decode cX8_would 127 = .ok (.getfield 7, 3) := by decide +kernel
theorem dX8_would_130 : decode cX8_would 130 = .ok (.iconst 0, 1) := by decide +kernel
theorem dX8_would_131 : decode cX8_would 131 = .ok (.iaload, 1) := by decide +kernel
theorem dX8_would_132 : decode cX8_would 132 = .ok (.istore 7, 2) := by decide +kernel
theorem dX8_would_134 : decode cX8_would 134 = .ok (.aload_n 0, 1) := by decide +kernel
theorem dX8_would_135 : decode cX8_would 135 = .ok (.iload 7, 2) := by decide +kernel
theorem dX8_would_137 : decode cX8_would 137 = .ok (.invokevirtual 81, 3) := by decide +kernel
theorem dX8_would_140 : decode cX8_would 140 = .ok (.ifCond .le 17, 3) := by decide +kernel
theorem dX8_would_143 : decode cX8_would 143 = .ok (.aload_n 0, 1) := by decide +kernel
theorem dX8_would_144 : decode cX8_would 144 = .ok (.iload 7, 2) := by decide +kernel
theorem dX8_would_146 : decode cX8_would 146 = .ok (.iload 6, 2) := by decide +kernel
theorem dX8_would_148 : decode cX8_would 148 = .ok (.iconst 0, 1) := by decide +kernel
theorem dX8_would_149 : decode cX8_would 149 = .ok (.invokevirtual 159, 3) := by decide +kernel
theorem dX8_would_152 : decode cX8_would 152 = .ok (.istore 7, 2) := by decide +kernel
theorem dX8_would_154 : decode cX8_would 154 = .ok (.goto (-20), 3) := by decide +kernel
theorem dX8_would_157 : decode cX8_would 157 = .ok (.aload_n 0, 1) := by decide +kernel
theorem dX8_would_158 : decode cX8_would 158 = .ok (.iload 7, 2) := by decide +kernel
theorem dX8_would_160 : decode cX8_would 160 = .ok (.invokevirtual 222, 3) := by decide +kernel
theorem dX8_would_163 : decode cX8_would 163 = .ok (.istore 8, 2) := by decide +kernel
theorem dX8_would_165 : decode cX8_would 165 = .ok (.aload_n 0, 1) := by decide +kernel
theorem dX8_would_166 : decode cX8_would 166 = .ok (.iload 7, 2) := by decide +kernel
theorem dX8_would_168 : decode cX8_would 168 = .ok (.invokevirtual 85, 3) := by decide +kernel
theorem dX8_would_171 : decode cX8_would 171 = .ok (.iconst 4, 1) := by decide +kernel
theorem dX8_would_172 : decode cX8_would 172 = .ok (.if_icmp .ne 7, 3) := by decide +kernel
theorem dX8_would_175 : decode cX8_would 175 = .ok (.iconst 1, 1) := by decide +kernel
theorem dX8_would_176 : decode cX8_would 176 = .ok (.goto 4, 3) := by decide +kernel
theorem dX8_would_179 : decode cX8_would 179 = .ok (.iconst 0, 1) := by decide +kernel
theorem dX8_would_180 : decode cX8_would 180 = .ok (.istore 9, 2) := by decide +kernel
theorem dX8_would_182 : decode cX8_would 182 = .ok (.aload_n 0, 1) := by decide +kernel
theorem dX8_would_183 : decode cX8_would 183 = .ok (.iload 6, 2) := by decide +kernel
theorem dX8_would_185 : decode cX8_would 185 = .ok (.iload_n 1, 1) := by decide +kernel
theorem dX8_would_186 : decode cX8_would 186 = .ok (.iload_n 2, 1) := by decide +kernel
theorem dX8_would_187 : decode cX8_would 187 = .ok (.iload_n 3, 1) := by decide +kernel
theorem dX8_would_188 : decode cX8_would 188 = .ok (.iload 4, 2) := by decide +kernel
theorem dX8_would_190 : decode cX8_would 190 = .ok (.invokevirtual 202, 3) := by decide +kernel
theorem dX8_would_193 : decode cX8_would 193 = .ok (.aload_n 0, 1) := by decide +kernel
theorem dX8_would_194 : decode cX8_would 194 = .ok (.invokevirtual 209, 3) := by decide +kernel
theorem dX8_would_197 : decode cX8_would 197 = .ok (.istore 10, 2) := by decide +kernel
theorem dX8_would_199 : decode cX8_would 199 = .ok (.aload_n 0, 1) := by decide +kernel
theorem dX8_would_200 : decode cX8_would 200 = .ok (.iconst 0, 1) := by decide +kernel
theorem dX8_would_201 : decode cX8_would 201 = .ok (.invokevirtual 225, 3) := by decide +kernel
theorem dX8_would_204 : decode cX8_would 204 = .ok (.istore 11, 2) := by decide +kernel
theorem dX8_would_206 : decode cX8_would 206 = .ok (.aload_n 0, 1) := by decide +kernel
theorem dX8_would_207 : decode cX8_would 207 = .ok (.invokevirtual 236, 3) := by decide +kernel
theorem dX8_would_210 : decode cX8_would 210 = .ok (.iload 5, 2) := by decide +kernel
theorem dX8_would_212 : decode cX8_would 212 = .ok (.ifCond .ne 8, 3) := by decide +kernel
theorem dX8_would_215 : decode cX8_would 215 = .ok (.iload 8, 2) := by decide +kernel
theorem dX8_would_217 : decode cX8_would 217 = .ok (.goto 40, 3) := by decide +kernel
theorem dX8_would_220 : decode cX8_would 220 = .ok (.iload 5, 2) := by decide +kernel
theorem dX8_would_222 : decode cX8_would 222 = .ok (.iconst 1, 1) := by decide +kernel
theorem dX8_would_223 : decode cX8_would 223 = .ok (.if_icmp .ne 8, 3) := by decide +kernel
theorem dX8_would_226 : decode cX8_would 226 = .ok (.iload 9, 2) := by decide +kernel
theorem dX8_would_228 : decode cX8_would 228 = .ok (.goto 29, 3) := by decide +kernel
theorem dX8_would_231 : decode cX8_would 231 = .ok (.iload 5, 2) := by decide +kernel
theorem dX8_would_233 : decode cX8_would 233 = .ok (.iconst 2, 1) := by decide +kernel
theorem dX8_would_234 : decode cX8_would 234 = .ok (.if_icmp .ne 10, 3) := by decide +kernel
theorem dX8_would_237 : decode cX8_would 237 = .ok (.aload_n 0, 1) := by decide +kernel
theorem dX8_would_238 : decode cX8_would 238 = .ok (.getfield 135, 3) := by decide +kernel
theorem dX8_would_241 : decode cX8_would 241 = .ok (.goto 16, 3) := by decide +kernel
theorem dX8_would_244 : decode cX8_would 244 = .ok (.iload 5, 2) := by decide +kernel
theorem dX8_would_246 : decode cX8_would 246 = .ok (.iconst 3, 1) := by decide +kernel
theorem dX8_would_247 : decode cX8_would 247 = .ok (.if_icmp .ne 8, 3) := by decide +kernel
theorem dX8_would_250 : decode cX8_would 250 = .ok (.iload 10, 2) := by decide +kernel
theorem dX8_would_252 : decode cX8_would 252 = .ok (.goto 5, 3) := by decide +kernel
theorem dX8_would_255 : decode cX8_would 255 = .ok (.iload 11, 2) := by decide +kernel
theorem dX8_would_257 : decode cX8_would 257 = .ok (.ireturn, 1) := by decide +kernel
theorem dX8_wouldTake_0 : decode cX8_wouldTake 0 = .ok (.iload_n 1, 1) := by decide +kernel
theorem dX8_wouldTake_1 : decode cX8_wouldTake 1 = .ok (.invokestatic 184, 3) := by decide +kernel
theorem dX8_wouldTake_4 : decode cX8_wouldTake 4 = .ok (.ifCond .eq 12, 3) := by decide +kernel
theorem dX8_wouldTake_7 : decode cX8_wouldTake 7 = .ok (.iload_n 2, 1) := by decide +kernel
theorem dX8_wouldTake_8 : decode cX8_wouldTake 8 = .ok (.iconst 0, 1) := by decide +kernel
theorem dX8_wouldTake_9 : decode cX8_wouldTake 9 = .ok (.iconst 3, 1) := by decide +kernel
theorem dX8_wouldTake_10 : decode cX8_wouldTake 10 = .ok (.invokestatic 180, 3) := by decide +kernel
theorem dX8_wouldTake_13 : decode cX8_wouldTake 13 = .ok (.ifCond .ne 6, 3) := by decide +kernel
theorem dX8_wouldTake_16 : decode cX8_wouldTake 16 = .ok (.ldc 192, 2) := by decide +kernel
theorem dX8_wouldTake_18 : decode cX8_wouldTake 18 = .ok (.ireturn, 1) := by decide +kernel
theorem dX8_wouldTake_19 : decode cX8_wouldTake 19 = .ok (.aload_n 0, 1) := by decide +kernel
theorem dX8_wouldTake_20 : decode cX8_wouldTake 20 = .ok (.iload_n 1, 1) := by decide +kernel
theorem dX8_wouldTake_21 : decode cX8_wouldTake 21 = .ok (.invokevirtual 193, 3) := by decide +kernel
theorem dX8_wouldTake_24 : decode cX8_wouldTake 24 = .ok (.ifCond .ne 6, 3) := by decide +kernel
theorem dX8_wouldTake_27 : decode cX8_wouldTake 27 = .ok (.ldc 221, 2) := by decide +kernel
theorem dX8_wouldTake_29 : decode cX8_wouldTake 29 = .ok (.ireturn, 1) := by decide +kernel
theorem dX8_wouldTake_30 : decode cX8_wouldTake 30 = .ok (.aload_n 0, 1) := by decide +kernel
theorem dX8_wouldTake_31 : decode cX8_wouldTake 31 = .ok (.invokevirtual 196, 3) := by decide +kernel
theorem dX8_wouldTake_34 : decode cX8_wouldTake 34 = .ok (.aload_n 0, 1) := by decide +kernel
theorem dX8_wouldTake_35 : decode cX8_wouldTake 35 = .ok (.iload_n 1, 1) := by decide +kernel
theorem dX8_wouldTake_36 : decode cX8_wouldTake 36 = .ok (.invokevirtual 212, 3) := by decide +kernel
theorem dX8_wouldTake_39 : decode cX8_wouldTake 39 = .ok (.aload_n 0, 1) := by decide +kernel
theorem dX8_wouldTake_40 : decode cX8_wouldTake 40 = .ok (.getfield 7, 3) := by decide +kernel
theorem dX8_wouldTake_43 : decode cX8_wouldTake 43 = .ok (.iconst 3, 1) := by decide +kernel
theorem dX8_wouldTake_44 : decode cX8_wouldTake 44 = .ok (.iaload, 1) := by decide +kernel
theorem dX8_wouldTake_45 : decode cX8_wouldTake 45 = .ok (.aload_n 0, 1) := by decide +kernel
theorem dX8_wouldTake_46 : decode cX8_wouldTake 46 = .ok (.getfield 13, 3) := by decide +kernel
theorem dX8_wouldTake_49 : decode cX8_wouldTake 49 = .ok (.iconst 3, 1) := by decide +kernel
theorem dX8_wouldTake_50 : decode cX8_wouldTake 50 = .ok (.iaload, 1) := by decide +kernel
theorem dX8_wouldTake_51 : decode cX8_wouldTake 51 = .ok (.isub, 1) := by decide +kernel
theorem dX8_wouldTake_52 : decode cX8_wouldTake 52 = .ok (.istore_n 3, 1) := by decide +kernel
theorem dX8_wouldTake_53 : decode cX8_wouldTake 53 = .ok (.aload_n 0, 1) := by decide +kernel
theorem dX8_wouldTake_54 : decode cX8_wouldTake 54 = .ok (.invokevirtual 209, 3) := by decide +kernel
theorem dX8_wouldTake_57 : decode cX8_wouldTake 57 = .ok (.istore 4, 2) := by decide +kernel
theorem dX8_wouldTake_59 : decode cX8_wouldTake 59 = .ok (.aload_n 0, 1) := by decide +kernel
theorem dX8_wouldTake_60 : decode cX8_wouldTake 60 = .ok (.iconst 0, 1) := by decide +kernel
theorem dX8_wouldTake_61 : decode cX8_wouldTake 61 = .ok (.invokevirtual 225, 3) := by decide +kernel
theorem dX8_wouldTake_64 : decode cX8_wouldTake 64 = .ok (.istore 5, 2) := by decide +kernel
theorem dX8_wouldTake_66 : decode cX8_wouldTake 66 = .ok (.aload_n 0, 1) := by decide +kernel
theorem dX8_wouldTake_67 : decode cX8_wouldTake 67 = .ok (.invokevirtual 236, 3) := by decide +kernel
theorem dX8_wouldTake_70 : decode cX8_wouldTake 70 = .ok (.iload_n 2, 1) := by decide +kernel
theorem dX8_wouldTake_71 : decode cX8_wouldTake 71 = .ok (.ifCond .ne 7, 3) := by decide +kernel
theorem dX8_wouldTake_74 : decode cX8_wouldTake 74 = .ok (.iload_n 3, 1) := by decide +kernel
theorem dX8_wouldTake_75 : decode cX8_wouldTake 75 = .ok (.goto 27, 3) := by decide +kernel
theorem dX8_wouldTake_78 : decode cX8_wouldTake 78 = .ok (.iload_n 2, 1) := by decide +kernel
theorem dX8_wouldTake_79 : decode cX8_wouldTake 79 = .ok (.iconst 1, 1) := by decide +kernel
theorem dX8_wouldTake_80 : decode cX8_wouldTake 80 = .ok (.if_icmp .ne 10, 3) := by decide +kernel
theorem dX8_wouldTake_83 : decode cX8_wouldTake 83 = .ok (.aload_n 0, 1) := by decide +kernel
theorem dX8_wouldTake_84 : decode cX8_wouldTake 84 = .ok (.getfield 135, 3) := by decide +kernel
theorem dX8_wouldTake_87 : decode cX8_wouldTake 87 = .ok (.goto 15, 3) := by decide +kernel
theorem dX8_wouldTake_90 : decode cX8_wouldTake 90 = .ok (.iload_n 2, 1) := by decide +kernel
theorem dX8_wouldTake_91 : decode cX8_wouldTake 91 = .ok (.iconst 2, 1) := by decide +kernel
theorem dX8_wouldTake_92 : decode cX8_wouldTake 92 = .ok (.if_icmp .ne 8, 3) := by decide +kernel
theorem dX8_wouldTake_95 : decode cX8_wouldTake 95 = .ok (.iload 4, 2) := by decide +kernel
theorem dX8_wouldTake_97 : decode cX8_wouldTake 97 = .ok (.goto 5, 3) := by decide +kernel
theorem dX8_wouldTake_100 : decode cX8_wouldTake 100 = .ok (.iload 5, 2) := by decide +kernel
theorem dX8_wouldTake_102 : decode cX8_wouldTake 102 = .ok (.ireturn, 1) := by decide +kernel
theorem dX8_boxMany_0 : decode cX8_boxMany 0 = .ok (.iconst 0, 1) := by decide +kernel
theorem dX8_boxMany_1 : decode cX8_boxMany 1 = .ok (.istore_n 1, 1) := by decide +kernel
theorem dX8_boxMany_2 : decode cX8_boxMany 2 = .ok (.iconst 0, 1) := by decide +kernel
theorem dX8_boxMany_3 : decode cX8_boxMany 3 = .ok (.istore_n 2, 1) := by decide +kernel
theorem dX8_boxMany_4 : decode cX8_boxMany 4 = .ok (.iload_n 2, 1) := by decide +kernel
theorem dX8_boxMany_5 : decode cX8_boxMany 5 = .ok (.bipush 31, 2) := by decide +kernel
theorem dX8_boxMany_7 : decode cX8_boxMany 7 = .ok (.if_icmp .ge 20, 3) := by decide +kernel
theorem dX8_boxMany_10 : decode cX8_boxMany 10 = .ok (.iload_n 1, 1) := by decide +kernel
theorem dX8_boxMany_11 : decode cX8_boxMany 11 = .ok (.aload_n 0, 1) := by decide +kernel
theorem dX8_boxMany_12 : decode cX8_boxMany 12 = .ok (.getfield 7, 3) := by decide +kernel
theorem dX8_boxMany_15 : decode cX8_boxMany 15 = .ok (.iconst 4, 1) := by decide +kernel
theorem dX8_boxMany_16 : decode cX8_boxMany 16 = .ok (.iload_n 2, 1) := by decide +kernel
theorem dX8_boxMany_17 : decode cX8_boxMany 17 = .ok (.iadd, 1) := by decide +kernel
theorem dX8_boxMany_18 : decode cX8_boxMany 18 = .ok (.iaload, 1) := by decide +kernel
theorem dX8_boxMany_19 : decode cX8_boxMany 19 = .ok (.iadd, 1) := by decide +kernel
theorem dX8_boxMany_20 : decode cX8_boxMany 20 = .ok (.istore_n 1, 1) := by decide +kernel
theorem dX8_boxMany_21 : decode cX8_boxMany 21 = .ok (.iinc 2 1, 3) := by decide +kernel
theorem dX8_boxMany_24 : decode cX8_boxMany 24 = .ok (.goto (-20), 3) := by decide +kernel
theorem dX8_boxMany_27 : decode cX8_boxMany 27 = .ok (.iload_n 1, 1) := by decide +kernel
theorem dX8_boxMany_28 : decode cX8_boxMany 28 = .ok (.ireturn, 1) := by decide +kernel
theorem dX8_nodeMany_0 : decode cX8_nodeMany 0 = .ok (.iconst 0, 1) := by decide +kernel
theorem dX8_nodeMany_1 : decode cX8_nodeMany 1 = .ok (.istore_n 2, 1) := by decide +kernel
theorem dX8_nodeMany_2 : decode cX8_nodeMany 2 = .ok (.iconst 0, 1) := by decide +kernel
theorem dX8_nodeMany_3 : decode cX8_nodeMany 3 = .ok (.istore_n 3, 1) := by decide +kernel
theorem dX8_nodeMany_4 : decode cX8_nodeMany 4 = .ok (.iload_n 3, 1) := by decide +kernel
theorem dX8_nodeMany_5 : decode cX8_nodeMany 5 = .ok (.bipush 40, 2) := by decide +kernel
theorem dX8_nodeMany_7 : decode cX8_nodeMany 7 = .ok (.if_icmp .ge 30, 3) := by decide +kernel
theorem dX8_nodeMany_10 : decode cX8_nodeMany 10 = .ok (.iload_n 2, 1) := by decide +kernel
theorem dX8_nodeMany_11 : decode cX8_nodeMany 11 = .ok (.aload_n 0, 1) := by decide +kernel
theorem dX8_nodeMany_12 : decode cX8_nodeMany 12 = .ok (.iload_n 3, 1) := by decide +kernel
theorem dX8_nodeMany_13 : decode cX8_nodeMany 13 = .ok (.invokevirtual 81, 3) := by decide +kernel
theorem dX8_nodeMany_16 : decode cX8_nodeMany 16 = .ok (.iconst 0, 1) := by decide +kernel
theorem dX8_nodeMany_17 : decode cX8_nodeMany 17 = .ok (.iload_n 1, 1) := by decide +kernel
theorem dX8_nodeMany_18 : decode cX8_nodeMany 18 = .ok (.invokestatic 180, 3) := by decide +kernel
theorem dX8_nodeMany_21 : decode cX8_nodeMany 21 = .ok (.ifCond .eq 7, 3) := by decide +kernel
theorem dX8_nodeMany_24 : decode cX8_nodeMany 24 = .ok (.iconst 1, 1) := by decide +kernel
theorem dX8_nodeMany_25 : decode cX8_nodeMany 25 = .ok (.goto 4, 3) := by decide +kernel
theorem dX8_nodeMany_28 : decode cX8_nodeMany 28 = .ok (.iconst 0, 1) := by decide +kernel
theorem dX8_nodeMany_29 : decode cX8_nodeMany 29 = .ok (.iadd, 1) := by decide +kernel
theorem dX8_nodeMany_30 : decode cX8_nodeMany 30 = .ok (.istore_n 2, 1) := by decide +kernel
theorem dX8_nodeMany_31 : decode cX8_nodeMany 31 = .ok (.iinc 3 1, 3) := by decide +kernel
theorem dX8_nodeMany_34 : decode cX8_nodeMany 34 = .ok (.goto (-30), 3) := by decide +kernel
theorem dX8_nodeMany_37 : decode cX8_nodeMany 37 = .ok (.iload_n 2, 1) := by decide +kernel
theorem dX8_nodeMany_38 : decode cX8_nodeMany 38 = .ok (.ireturn, 1) := by decide +kernel
theorem dX8_areas_0 : decode cX8_areas 0 = .ok (.aload_n 0, 1) := by decide +kernel
theorem dX8_areas_1 : decode cX8_areas 1 = .ok (.invokevirtual 126, 3) := by decide +kernel
theorem dX8_areas_4 : decode cX8_areas 4 = .ok (.iconst 0, 1) := by decide +kernel
theorem dX8_areas_5 : decode cX8_areas 5 = .ok (.istore_n 1, 1) := by decide +kernel
theorem dX8_areas_6 : decode cX8_areas 6 = .ok (.iconst 0, 1) := by decide +kernel
theorem dX8_areas_7 : decode cX8_areas 7 = .ok (.istore_n 2, 1) := by decide +kernel
theorem dX8_areas_8 : decode cX8_areas 8 = .ok (.iload_n 2, 1) := by decide +kernel
theorem dX8_areas_9 : decode cX8_areas 9 = .ok (.bipush 40, 2) := by decide +kernel
theorem dX8_areas_11 : decode cX8_areas 11 = .ok (.if_icmp .ge 45, 3) := by decide +kernel
theorem dX8_areas_14 : decode cX8_areas 14 = .ok (.aload_n 0, 1) := by decide +kernel
theorem dX8_areas_15 : decode cX8_areas 15 = .ok (.iload_n 2, 1) := by decide +kernel
theorem dX8_areas_16 : decode cX8_areas 16 = .ok (.invokevirtual 81, 3) := by decide +kernel
theorem dX8_areas_19 : decode cX8_areas 19 = .ok (.ifCond .ne 31, 3) := by decide +kernel
theorem dX8_areas_22 : decode cX8_areas 22 = .ok (.aload_n 0, 1) := by decide +kernel
theorem dX8_areas_23 : decode cX8_areas 23 = .ok (.iload_n 2, 1) := by decide +kernel
theorem dX8_areas_24 : decode cX8_areas 24 = .ok (.invokevirtual 85, 3) := by decide +kernel
theorem dX8_areas_27 : decode cX8_areas 27 = .ok (.ifCond .le 23, 3) := by decide +kernel
theorem dX8_areas_30 : decode cX8_areas 30 = .ok (.aload_n 0, 1) := by decide +kernel
theorem dX8_areas_31 : decode cX8_areas 31 = .ok (.aload_n 0, 1) := by decide +kernel
theorem dX8_areas_32 : decode cX8_areas 32 = .ok (.getfield 28, 3) := by decide +kernel
theorem dX8_areas_35 : decode cX8_areas 35 = .ok (.iload_n 2, 1) := by decide +kernel
theorem dX8_areas_36 : decode cX8_areas 36 = .ok (.iconst 1, 1) := by decide +kernel
theorem dX8_areas_37 : decode cX8_areas 37 = .ok (.invokevirtual 112, 3) := by decide +kernel
theorem dX8_areas_40 : decode cX8_areas 40 = .ok (.iload_n 1, 1) := by decide +kernel
theorem dX8_areas_41 : decode cX8_areas 41 = .ok (.aload_n 0, 1) := by decide +kernel
theorem dX8_areas_42 : decode cX8_areas 42 = .ok (.getfield 28, 3) := by decide +kernel
theorem dX8_areas_45 : decode cX8_areas 45 = .ok (.invokestatic 116, 3) := by decide +kernel
theorem dX8_areas_48 : decode cX8_areas 48 = .ok (.iadd, 1) := by decide +kernel
theorem dX8_areas_49 : decode cX8_areas 49 = .ok (.istore_n 1, 1) := by decide +kernel
theorem dX8_areas_50 : decode cX8_areas 50 = .ok (.iinc 2 1, 3) := by decide +kernel
theorem dX8_areas_53 : decode cX8_areas 53 = .ok (.goto (-45), 3) := by decide +kernel
theorem dX8_areas_56 : decode cX8_areas 56 = .ok (.iload_n 1, 1) := by decide +kernel
theorem dX8_areas_57 : decode cX8_areas 57 = .ok (.ireturn, 1) := by decide +kernel
theorem dX8_count_0 : decode cX8_count 0 = .ok (.iload_n 1, 1) := by decide +kernel
theorem dX8_count_1 : decode cX8_count 1 = .ok (.tableswitch 123 0 10 #[59, 64, 69, 76, 82, 87, 94, 101, 108, 113, 118], 59) := by decide +kernel
theorem dX8_count_60 : decode cX8_count 60 = .ok (.aload_n 0, 1) := by decide +kernel
theorem dX8_count_61 : decode cX8_count 61 = .ok (.invokevirtual 239, 3) := by decide +kernel
theorem dX8_count_64 : decode cX8_count 64 = .ok (.ireturn, 1) := by decide +kernel
theorem dX8_count_65 : decode cX8_count 65 = .ok (.aload_n 0, 1) := by decide +kernel
theorem dX8_count_66 : decode cX8_count 66 = .ok (.invokevirtual 209, 3) := by decide +kernel
theorem dX8_count_69 : decode cX8_count 69 = .ok (.ireturn, 1) := by decide +kernel
theorem dX8_count_70 : decode cX8_count 70 = .ok (.aload_n 0, 1) := by decide +kernel
theorem dX8_count_71 : decode cX8_count 71 = .ok (.bipush 40, 2) := by decide +kernel
theorem dX8_count_73 : decode cX8_count 73 = .ok (.invokevirtual 242, 3) := by decide +kernel
theorem dX8_count_76 : decode cX8_count 76 = .ok (.ireturn, 1) := by decide +kernel
theorem dX8_count_77 : decode cX8_count 77 = .ok (.aload_n 0, 1) := by decide +kernel
theorem dX8_count_78 : decode cX8_count 78 = .ok (.iconst 0, 1) := by decide +kernel
theorem dX8_count_79 : decode cX8_count 79 = .ok (.invokevirtual 242, 3) := by decide +kernel
theorem dX8_count_82 : decode cX8_count 82 = .ok (.ireturn, 1) := by decide +kernel
theorem dX8_count_83 : decode cX8_count 83 = .ok (.aload_n 0, 1) := by decide +kernel
theorem dX8_count_84 : decode cX8_count 84 = .ok (.getfield 177, 3) := by decide +kernel
theorem dX8_count_87 : decode cX8_count 87 = .ok (.ireturn, 1) := by decide +kernel
theorem dX8_count_88 : decode cX8_count 88 = .ok (.aload_n 0, 1) := by decide +kernel
theorem dX8_count_89 : decode cX8_count 89 = .ok (.getfield 7, 3) := by decide +kernel
theorem dX8_count_92 : decode cX8_count 92 = .ok (.iconst 1, 1) := by decide +kernel
theorem dX8_count_93 : decode cX8_count 93 = .ok (.iaload, 1) := by decide +kernel
theorem dX8_count_94 : decode cX8_count 94 = .ok (.ireturn, 1) := by decide +kernel
theorem dX8_count_95 : decode cX8_count 95 = .ok (.aload_n 0, 1) := by decide +kernel
theorem dX8_count_96 : decode cX8_count 96 = .ok (.getfield 7, 3) := by decide +kernel
theorem dX8_count_99 : decode cX8_count 99 = .ok (.iconst 2, 1) := by decide +kernel
theorem dX8_count_100 : decode cX8_count 100 = .ok (.iaload, 1) := by decide +kernel
theorem dX8_count_101 : decode cX8_count 101 = .ok (.ireturn, 1) := by decide +kernel
theorem dX8_count_102 : decode cX8_count 102 = .ok (.aload_n 0, 1) := by decide +kernel
theorem dX8_count_103 : decode cX8_count 103 = .ok (.getfield 7, 3) := by decide +kernel
theorem dX8_count_106 : decode cX8_count 106 = .ok (.iconst 3, 1) := by decide +kernel
theorem dX8_count_107 : decode cX8_count 107 = .ok (.iaload, 1) := by decide +kernel
theorem dX8_count_108 : decode cX8_count 108 = .ok (.ireturn, 1) := by decide +kernel
theorem dX8_count_109 : decode cX8_count 109 = .ok (.aload_n 0, 1) := by decide +kernel
theorem dX8_count_110 : decode cX8_count 110 = .ok (.getfield 77, 3) := by decide +kernel
theorem dX8_count_113 : decode cX8_count 113 = .ok (.ireturn, 1) := by decide +kernel
theorem dX8_count_114 : decode cX8_count 114 = .ok (.aload_n 0, 1) := by decide +kernel
theorem dX8_count_115 : decode cX8_count 115 = .ok (.getfield 245, 3) := by decide +kernel
theorem dX8_count_118 : decode cX8_count 118 = .ok (.ireturn, 1) := by decide +kernel
theorem dX8_count_119 : decode cX8_count 119 = .ok (.aload_n 0, 1) := by decide +kernel
theorem dX8_count_120 : decode cX8_count 120 = .ok (.invokevirtual 248, 3) := by decide +kernel
theorem dX8_count_123 : decode cX8_count 123 = .ok (.ireturn, 1) := by decide +kernel
theorem dX8_count_124 : decode cX8_count 124 = .ok (.ldc 192, 2) := by decide +kernel
theorem dX8_count_126 : decode cX8_count 126 = .ok (.ireturn, 1) := by decide +kernel
theorem dX8_type_0 : decode cX8_type 0 = .ok (.iload_n 1, 1) := by decide +kernel
theorem dX8_type_1 : decode cX8_type 1 = .ok (.bipush 32, 2) := by decide +kernel
theorem dX8_type_3 : decode cX8_type 3 = .ok (.bipush 126, 2) := by decide +kernel
theorem dX8_type_5 : decode cX8_type 5 = .ok (.invokestatic 180, 3) := by decide +kernel
theorem dX8_type_8 : decode cX8_type 8 = .ok (.ifCond .ne 6, 3) := by decide +kernel
theorem dX8_type_11 : decode cX8_type 11 = .ok (.ldc 192, 2) := by decide +kernel
theorem dX8_type_13 : decode cX8_type 13 = .ok (.ireturn, 1) := by decide +kernel
theorem dX8_type_14 : decode cX8_type 14 = .ok (.aload_n 0, 1) := by decide +kernel
theorem dX8_type_15 : decode cX8_type 15 = .ok (.getfield 245, 3) := by decide +kernel
theorem dX8_type_18 : decode cX8_type 18 = .ok (.bipush 60, 2) := by decide +kernel
theorem dX8_type_20 : decode cX8_type 20 = .ok (.if_icmp .ne 6, 3) := by decide +kernel
theorem dX8_type_23 : decode cX8_type 23 = .ok (.ldc 251, 2) := by decide +kernel
theorem dX8_type_25 : decode cX8_type 25 = .ok (.ireturn, 1) := by decide +kernel
theorem dX8_type_26 : decode cX8_type 26 = .ok (.aload_n 0, 1) := by decide +kernel
theorem dX8_type_27 : decode cX8_type 27 = .ok (.getfield 19, 3) := by decide +kernel
theorem dX8_type_30 : decode cX8_type 30 = .ok (.aload_n 0, 1) := by decide +kernel
theorem dX8_type_31 : decode cX8_type 31 = .ok (.getfield 245, 3) := by decide +kernel
theorem dX8_type_34 : decode cX8_type 34 = .ok (.iload_n 1, 1) := by decide +kernel
theorem dX8_type_35 : decode cX8_type 35 = .ok (.iastore, 1) := by decide +kernel
theorem dX8_type_36 : decode cX8_type 36 = .ok (.aload_n 0, 1) := by decide +kernel
theorem dX8_type_37 : decode cX8_type 37 = .ok (.dup, 1) := by decide +kernel
theorem dX8_type_38 : decode cX8_type 38 = .ok (.getfield 245, 3) := by decide +kernel
theorem dX8_type_41 : decode cX8_type 41 = .ok (.iconst 1, 1) := by decide +kernel
theorem dX8_type_42 : decode cX8_type 42 = .ok (.iadd, 1) := by decide +kernel
theorem dX8_type_43 : decode cX8_type 43 = .ok (.putfield 245, 3) := by decide +kernel
theorem dX8_type_46 : decode cX8_type 46 = .ok (.aload_n 0, 1) := by decide +kernel
theorem dX8_type_47 : decode cX8_type 47 = .ok (.getfield 245, 3) := by decide +kernel
theorem dX8_type_50 : decode cX8_type 50 = .ok (.ireturn, 1) := by decide +kernel
theorem dX8_clearText_0 : decode cX8_clearText 0 = .ok (.aload_n 0, 1) := by decide +kernel
theorem dX8_clearText_1 : decode cX8_clearText 1 = .ok (.getfield 245, 3) := by decide +kernel
theorem dX8_clearText_4 : decode cX8_clearText 4 = .ok (.istore_n 1, 1) := by decide +kernel
theorem dX8_clearText_5 : decode cX8_clearText 5 = .ok (.aload_n 0, 1) := by decide +kernel
theorem dX8_clearText_6 : decode cX8_clearText 6 = .ok (.iconst 0, 1) := by decide +kernel
theorem dX8_clearText_7 : decode cX8_clearText 7 = .ok (.putfield 245, 3) := by decide +kernel
theorem dX8_clearText_10 : decode cX8_clearText 10 = .ok (.iload_n 1, 1) := by decide +kernel
theorem dX8_clearText_11 : decode cX8_clearText 11 = .ok (.ireturn, 1) := by decide +kernel
theorem dX8_here_0 : decode cX8_here 0 = .ok (.aload_n 0, 1) := by decide +kernel
theorem dX8_here_1 : decode cX8_here 1 = .ok (.getfield 252, 3) := by decide +kernel
theorem dX8_here_4 : decode cX8_here 4 = .ok (.aload_n 0, 1) := by decide +kernel
theorem dX8_here_5 : decode cX8_here 5 = .ok (.getfield 245, 3) := by decide +kernel
theorem dX8_here_8 : decode cX8_here 8 = .ok (.if_icmp .ge 15, 3) := by decide +kernel
theorem dX8_here_11 : decode cX8_here 11 = .ok (.aload_n 0, 1) := by decide +kernel
theorem dX8_here_12 : decode cX8_here 12 = .ok (.getfield 19, 3) := by decide +kernel
theorem dX8_here_15 : decode cX8_here 15 = .ok (.aload_n 0, 1) := by decide +kernel
theorem dX8_here_16 : decode cX8_here 16 = .ok (.getfield 252, 3) := by decide +kernel
theorem dX8_here_19 : decode cX8_here 19 = .ok (.iaload, 1) := by decide +kernel
theorem dX8_here_20 : decode cX8_here 20 = .ok (.goto 4, 3) := by decide +kernel
theorem dX8_here_23 : decode cX8_here 23 = .ok (.iconst 0, 1) := by decide +kernel
theorem dX8_here_24 : decode cX8_here 24 = .ok (.ireturn, 1) := by decide +kernel
theorem dX8_reads_0 : decode cX8_reads 0 = .ok (.iconst 0, 1) := by decide +kernel
theorem dX8_reads_1 : decode cX8_reads 1 = .ok (.istore_n 2, 1) := by decide +kernel
theorem dX8_reads_2 : decode cX8_reads 2 = .ok (.iload_n 2, 1) := by decide +kernel
theorem dX8_reads_3 : decode cX8_reads 3 = .ok (.iload_n 1, 1) := by decide +kernel
theorem dX8_reads_4 : decode cX8_reads 4 = .ok (.if_icmp .ge 128, 3) := by decide +kernel
theorem dX8_reads_7 : decode cX8_reads 7 = .ok (.aload_n 0, 1) := by decide +kernel
theorem dX8_reads_8 : decode cX8_reads 8 = .ok (.invokevirtual 255, 3) := by decide +kernel
theorem dX8_reads_11 : decode cX8_reads 11 = .ok (.bipush 48, 2) := by decide +kernel
theorem dX8_reads_13 : decode cX8_reads 13 = .ok (.bipush 57, 2) := by decide +kernel
theorem dX8_reads_15 : decode cX8_reads 15 = .ok (.invokestatic 180, 3) := by decide +kernel
theorem dX8_reads_18 : decode cX8_reads 18 = .ok (.ifCond .ne 5, 3) := by decide +kernel
theorem dX8_reads_21 : decode cX8_reads 21 = .ok (.iconst 0, 1) := by decide +kernel
theorem dX8_reads_22 : decode cX8_reads 22 = .ok (.ireturn, 1) := by decide +kernel
theorem dX8_reads_23 : decode cX8_reads 23 = .ok (.aload_n 0, 1) := by decide +kernel
theorem dX8_reads_24 : decode cX8_reads 24 = .ok (.getfield 70, 3) := by decide +kernel
theorem dX8_reads_27 : decode cX8_reads 27 = .ok (.iload_n 2, 1) := by decide +kernel
theorem dX8_reads_28 : decode cX8_reads 28 = .ok (.aload_n 0, 1) := by decide +kernel
theorem dX8_reads_29 : decode cX8_reads 29 = .ok (.invokevirtual 255, 3) := by decide +kernel
theorem dX8_reads_32 : decode cX8_reads 32 = .ok (.bipush 48, 2) := by decide +kernel
theorem dX8_reads_34 : decode cX8_reads 34 = .ok (.isub, 1) := by decide +kernel
theorem dX8_reads_35 : decode cX8_reads 35 = .ok (.iastore, 1) := by decide +kernel
theorem dX8_reads_36 : decode cX8_reads 36 = .ok (.aload_n 0, 1) := by decide +kernel
theorem dX8_reads_37 : decode cX8_reads 37 = .ok (.dup, 1) := by decide +kernel
theorem dX8_reads_38 : decode cX8_reads 38 = .ok (.getfield 252, 3) := by decide +kernel
theorem dX8_reads_41 : decode cX8_reads 41 = .ok (.iconst 1, 1) := by decide +kernel
theorem dX8_reads_42 : decode cX8_reads 42 = .ok (.iadd, 1) := by decide +kernel
theorem dX8_reads_43 : decode cX8_reads 43 = .ok (.putfield 252, 3) := by decide +kernel
theorem dX8_reads_46 : decode cX8_reads 46 = .ok (.aload_n 0, 1) := by decide +kernel
theorem dX8_reads_47 : decode cX8_reads 47 = .ok (.invokevirtual 255, 3) := by decide +kernel
theorem dX8_reads_50 : decode cX8_reads 50 = .ok (.bipush 48, 2) := by decide +kernel
theorem dX8_reads_52 : decode cX8_reads 52 = .ok (.bipush 57, 2) := by decide +kernel
theorem dX8_reads_54 : decode cX8_reads 54 = .ok (.invokestatic 180, 3) := by decide +kernel
theorem dX8_reads_57 : decode cX8_reads 57 = .ok (.ifCond .eq 36, 3) := by decide +kernel
theorem dX8_reads_60 : decode cX8_reads 60 = .ok (.aload_n 0, 1) := by decide +kernel
theorem dX8_reads_61 : decode cX8_reads 61 = .ok (.getfield 70, 3) := by decide +kernel
theorem dX8_reads_64 : decode cX8_reads 64 = .ok (.iload_n 2, 1) := by decide +kernel
theorem dX8_reads_65 : decode cX8_reads 65 = .ok (.bipush 10, 2) := by decide +kernel
theorem dX8_reads_67 : decode cX8_reads 67 = .ok (.aload_n 0, 1) := by decide +kernel
theorem dX8_reads_68 : decode cX8_reads 68 = .ok (.getfield 70, 3) := by decide +kernel
theorem dX8_reads_71 : decode cX8_reads 71 = .ok (.iload_n 2, 1) := by decide +kernel
theorem dX8_reads_72 : decode cX8_reads 72 = .ok (.iaload, 1) := by decide +kernel
theorem dX8_reads_73 : decode cX8_reads 73 = .ok (.imul, 1) := by decide +kernel
theorem dX8_reads_74 : decode cX8_reads 74 = .ok (.aload_n 0, 1) := by decide +kernel
theorem dX8_reads_75 : decode cX8_reads 75 = .ok (.invokevirtual 255, 3) := by decide +kernel
theorem dX8_reads_78 : decode cX8_reads 78 = .ok (.iadd, 1) := by decide +kernel
theorem dX8_reads_79 : decode cX8_reads 79 = .ok (.bipush 48, 2) := by decide +kernel
theorem dX8_reads_81 : decode cX8_reads 81 = .ok (.isub, 1) := by decide +kernel
theorem dX8_reads_82 : decode cX8_reads 82 = .ok (.iastore, 1) := by decide +kernel
theorem dX8_reads_83 : decode cX8_reads 83 = .ok (.aload_n 0, 1) := by decide +kernel
theorem dX8_reads_84 : decode cX8_reads 84 = .ok (.dup, 1) := by decide +kernel
theorem dX8_reads_85 : decode cX8_reads 85 = .ok (.getfield 252, 3) := by decide +kernel
theorem dX8_reads_88 : decode cX8_reads 88 = .ok (.iconst 1, 1) := by decide +kernel
theorem dX8_reads_89 : decode cX8_reads 89 = .ok (.iadd, 1) := by decide +kernel
theorem dX8_reads_90 : decode cX8_reads 90 = .ok (.putfield 252, 3) := by decide +kernel
theorem dX8_reads_93 : decode cX8_reads 93 = .ok (.aload_n 0, 1) := by decide +kernel
theorem dX8_reads_94 : decode cX8_reads 94 = .ok (.invokevirtual 255, 3) := by decide +kernel
theorem dX8_reads_97 : decode cX8_reads 97 = .ok (.iload_n 2, 1) := by decide +kernel
theorem dX8_reads_98 : decode cX8_reads 98 = .ok (.iload_n 1, 1) := by decide +kernel
theorem dX8_reads_99 : decode cX8_reads 99 = .ok (.iconst 1, 1) := by decide +kernel
theorem dX8_reads_100 : decode cX8_reads 100 = .ok (.isub, 1) := by decide +kernel
theorem dX8_reads_101 : decode cX8_reads 101 = .ok (.if_icmp .ne 8, 3) := by decide +kernel
theorem dX8_reads_104 : decode cX8_reads 104 = .ok (.bipush 59, 2) := by decide +kernel
theorem dX8_reads_106 : decode cX8_reads 106 = .ok (.goto 5, 3) := by decide +kernel
theorem dX8_reads_109 : decode cX8_reads 109 = .ok (.bipush 44, 2) := by decide +kernel
theorem dX8_reads_111 : decode cX8_reads 111 = .ok (.if_icmp .eq 5, 3) := by decide +kernel
theorem dX8_reads_114 : decode cX8_reads 114 = .ok (.iconst 0, 1) := by decide +kernel
theorem dX8_reads_115 : decode cX8_reads 115 = .ok (.ireturn, 1) := by decide +kernel
theorem dX8_reads_116 : decode cX8_reads 116 = .ok (.aload_n 0, 1) := by decide +kernel
theorem dX8_reads_117 : decode cX8_reads 117 = .ok (.dup, 1) := by decide +kernel
theorem dX8_reads_118 : decode cX8_reads 118 = .ok (.getfield 252, 3) := by decide +kernel
theorem dX8_reads_121 : decode cX8_reads 121 = .ok (.iconst 1, 1) := by decide +kernel
theorem dX8_reads_122 : decode cX8_reads 122 = .ok (.iadd, 1) := by decide +kernel
theorem dX8_reads_123 : decode cX8_reads 123 = .ok (.putfield 252, 3) := by decide +kernel
theorem dX8_reads_126 : decode cX8_reads 126 = .ok (.iinc 2 1, 3) := by decide +kernel
theorem dX8_reads_129 : decode cX8_reads 129 = .ok (.goto (-127), 3) := by decide +kernel
theorem dX8_reads_132 : decode cX8_reads 132 = .ok (.iconst 1, 1) := by decide +kernel
theorem dX8_reads_133 : decode cX8_reads 133 = .ok (.ireturn, 1) := by decide +kernel
theorem dX8_wrong_0 : decode cX8_wrong 0 = .ok (.aload_n 0, 1) := by decide +kernel
theorem dX8_wrong_1 : decode cX8_wrong 1 = .ok (.getfield 258, 3) := by decide +kernel
theorem dX8_wrong_4 : decode cX8_wrong 4 = .ok (.ifCond .ne 13, 3) := by decide +kernel
theorem dX8_wrong_7 : decode cX8_wrong 7 = .ok (.aload_n 0, 1) := by decide +kernel
theorem dX8_wrong_8 : decode cX8_wrong 8 = .ok (.iload_n 1, 1) := by decide +kernel
theorem dX8_wrong_9 : decode cX8_wrong 9 = .ok (.putfield 258, 3) := by decide +kernel
theorem dX8_wrong_12 : decode cX8_wrong 12 = .ok (.aload_n 0, 1) := by decide +kernel
theorem dX8_wrong_13 : decode cX8_wrong 13 = .ok (.iload_n 2, 1) := by decide +kernel
theorem dX8_wrong_14 : decode cX8_wrong 14 = .ok (.putfield 261, 3) := by decide +kernel
theorem dX8_wrong_17 : decode cX8_wrong 17 = .ok (.return_, 1) := by decide +kernel
theorem dX8_order_0 : decode cX8_order 0 = .ok (.aload_n 0, 1) := by decide +kernel
theorem dX8_order_1 : decode cX8_order 1 = .ok (.aload_n 0, 1) := by decide +kernel
theorem dX8_order_2 : decode cX8_order 2 = .ok (.getfield 252, 3) := by decide +kernel
theorem dX8_order_5 : decode cX8_order 5 = .ok (.putfield 264, 3) := by decide +kernel
theorem dX8_order_8 : decode cX8_order 8 = .ok (.aload_n 0, 1) := by decide +kernel
theorem dX8_order_9 : decode cX8_order 9 = .ok (.invokevirtual 255, 3) := by decide +kernel
theorem dX8_order_12 : decode cX8_order 12 = .ok (.istore_n 1, 1) := by decide +kernel
theorem dX8_order_13 : decode cX8_order 13 = .ok (.iload_n 1, 1) := by decide +kernel
theorem dX8_order_14 : decode cX8_order 14 = .ok (.bipush 43, 2) := by decide +kernel
theorem dX8_order_16 : decode cX8_order 16 = .ok (.if_icmp .ne 7, 3) := by decide +kernel
theorem dX8_order_19 : decode cX8_order 19 = .ok (.iconst 1, 1) := by decide +kernel
theorem dX8_order_20 : decode cX8_order 20 = .ok (.goto 4, 3) := by decide +kernel
theorem dX8_order_23 : decode cX8_order 23 = .ok (.iconst 0, 1) := by decide +kernel
theorem dX8_order_24 : decode cX8_order 24 = .ok (.istore_n 2, 1) := by decide +kernel
theorem dX8_order_25 : decode cX8_order 25 = .ok (.iload_n 2, 1) := by decide +kernel
theorem dX8_order_26 : decode cX8_order 26 = .ok (.ifCond .ne 16, 3) := by decide +kernel
theorem dX8_order_29 : decode cX8_order 29 = .ok (.iload_n 1, 1) := by decide +kernel
theorem dX8_order_30 : decode cX8_order 30 = .ok (.bipush 45, 2) := by decide +kernel
theorem dX8_order_32 : decode cX8_order 32 = .ok (.if_icmp .eq 10, 3) := by decide +kernel
theorem dX8_order_35 : decode cX8_order 35 = .ok (.aload_n 0, 1) := by decide +kernel
theorem dX8_order_36 : decode cX8_order 36 = .ok (.iconst 1, 1) := by decide +kernel
theorem dX8_order_37 : decode cX8_order 37 = .ok (.iconst 0, 1) := by decide +kernel
theorem dX8_order_38 : decode cX8_order 38 = .ok (.invokevirtual 267, 3) := by decide +kernel
theorem dX8_order_41 : decode cX8_order 41 = .ok (.return_, 1) := by decide +kernel
theorem dX8_order_42 : decode cX8_order 42 = .ok (.aload_n 0, 1) := by decide +kernel
theorem dX8_order_43 : decode cX8_order 43 = .ok (.dup, 1) := by decide +kernel
theorem dX8_order_44 : decode cX8_order 44 = .ok (.getfield 252, 3) := by decide +kernel
theorem dX8_order_47 : decode cX8_order 47 = .ok (.iconst 1, 1) := by decide +kernel
theorem dX8_order_48 : decode cX8_order 48 = .ok (.iadd, 1) := by decide +kernel
theorem dX8_order_49 : decode cX8_order 49 = .ok (.putfield 252, 3) := by decide +kernel
theorem dX8_order_52 : decode cX8_order 52 = .ok (.aload_n 0, 1) := by decide +kernel
theorem dX8_order_53 : decode cX8_order 53 = .ok (.iload_n 2, 1) := by decide +kernel
theorem dX8_order_54 : decode cX8_order 54 = .ok (.ifCond .eq 7, 3) := by decide +kernel
theorem dX8_order_57 : decode cX8_order 57 = .ok (.iconst 5, 1) := by decide +kernel
theorem dX8_order_58 : decode cX8_order 58 = .ok (.goto 4, 3) := by decide +kernel
theorem dX8_order_61 : decode cX8_order 61 = .ok (.iconst 1, 1) := by decide +kernel
theorem dX8_order_62 : decode cX8_order 62 = .ok (.invokevirtual 270, 3) := by decide +kernel
theorem dX8_order_65 : decode cX8_order 65 = .ok (.ifCond .ne 18, 3) := by decide +kernel
theorem dX8_order_68 : decode cX8_order 68 = .ok (.aload_n 0, 1) := by decide +kernel
theorem dX8_order_69 : decode cX8_order 69 = .ok (.iconst 1, 1) := by decide +kernel
theorem dX8_order_70 : decode cX8_order 70 = .ok (.aload_n 0, 1) := by decide +kernel
theorem dX8_order_71 : decode cX8_order 71 = .ok (.getfield 252, 3) := by decide +kernel
theorem dX8_order_74 : decode cX8_order 74 = .ok (.aload_n 0, 1) := by decide +kernel
theorem dX8_order_75 : decode cX8_order 75 = .ok (.getfield 264, 3) := by decide +kernel
theorem dX8_order_78 : decode cX8_order 78 = .ok (.isub, 1) := by decide +kernel
theorem dX8_order_79 : decode cX8_order 79 = .ok (.invokevirtual 267, 3) := by decide +kernel
theorem dX8_order_82 : decode cX8_order 82 = .ok (.return_, 1) := by decide +kernel
theorem dX8_order_83 : decode cX8_order 83 = .ok (.aload_n 0, 1) := by decide +kernel
theorem dX8_order_84 : decode cX8_order 84 = .ok (.getfield 70, 3) := by decide +kernel
theorem dX8_order_87 : decode cX8_order 87 = .ok (.iconst 0, 1) := by decide +kernel
theorem dX8_order_88 : decode cX8_order 88 = .ok (.iaload, 1) := by decide +kernel
theorem dX8_order_89 : decode cX8_order 89 = .ok (.bipush 31, 2) := by decide +kernel
theorem dX8_order_91 : decode cX8_order 91 = .ok (.if_icmp .lt 9, 3) := by decide +kernel
theorem dX8_order_94 : decode cX8_order 94 = .ok (.aload_n 0, 1) := by decide +kernel
theorem dX8_order_95 : decode cX8_order 95 = .ok (.iconst 2, 1) := by decide +kernel
theorem dX8_order_96 : decode cX8_order 96 = .ok (.iconst 0, 1) := by decide +kernel
theorem dX8_order_97 : decode cX8_order 97 = .ok (.invokevirtual 267, 3) := by decide +kernel
theorem dX8_order_100 : decode cX8_order 100 = .ok (.iconst 1, 1) := by decide +kernel
theorem dX8_order_101 : decode cX8_order 101 = .ok (.istore_n 3, 1) := by decide +kernel
theorem dX8_order_102 : decode cX8_order 102 = .ok (.iload_n 3, 1) := by decide +kernel
theorem dX8_order_103 : decode cX8_order 103 = .ok (.iconst 3, 1) := by decide +kernel
theorem dX8_order_104 : decode cX8_order 104 = .ok (.if_icmp .ge 36, 3) := by decide +kernel
theorem dX8_order_107 : decode cX8_order 107 = .ok (.iload_n 2, 1) := by decide +kernel
theorem dX8_order_108 : decode cX8_order 108 = .ok (.ifCond .eq 32, 3) := by decide +kernel
theorem dX8_order_111 : decode cX8_order 111 = .ok (.aload_n 0, 1) := by decide +kernel
theorem dX8_order_112 : decode cX8_order 112 = .ok (.getfield 70, 3) := by decide +kernel
theorem dX8_order_115 : decode cX8_order 115 = .ok (.iload_n 3, 1) := by decide +kernel
theorem dX8_order_116 : decode cX8_order 116 = .ok (.iaload, 1) := by decide +kernel
theorem dX8_order_117 : decode cX8_order 117 = .ok (.aload_n 0, 1) := by decide +kernel
theorem dX8_order_118 : decode cX8_order 118 = .ok (.getfield 70, 3) := by decide +kernel
theorem dX8_order_121 : decode cX8_order 121 = .ok (.iload_n 3, 1) := by decide +kernel
theorem dX8_order_122 : decode cX8_order 122 = .ok (.iconst 2, 1) := by decide +kernel
theorem dX8_order_123 : decode cX8_order 123 = .ok (.iadd, 1) := by decide +kernel
theorem dX8_order_124 : decode cX8_order 124 = .ok (.iaload, 1) := by decide +kernel
theorem dX8_order_125 : decode cX8_order 125 = .ok (.if_icmp .le 9, 3) := by decide +kernel
theorem dX8_order_128 : decode cX8_order 128 = .ok (.aload_n 0, 1) := by decide +kernel
theorem dX8_order_129 : decode cX8_order 129 = .ok (.iconst 2, 1) := by decide +kernel
theorem dX8_order_130 : decode cX8_order 130 = .ok (.iload_n 3, 1) := by decide +kernel
theorem dX8_order_131 : decode cX8_order 131 = .ok (.invokevirtual 267, 3) := by decide +kernel
theorem dX8_order_134 : decode cX8_order 134 = .ok (.iinc 3 1, 3) := by decide +kernel
theorem dX8_order_137 : decode cX8_order 137 = .ok (.goto (-35), 3) := by decide +kernel
theorem dX8_order_140 : decode cX8_order 140 = .ok (.aload_n 0, 1) := by decide +kernel
theorem dX8_order_141 : decode cX8_order 141 = .ok (.getfield 258, 3) := by decide +kernel
theorem dX8_order_144 : decode cX8_order 144 = .ok (.ifCond .ne 24, 3) := by decide +kernel
theorem dX8_order_147 : decode cX8_order 147 = .ok (.aload_n 0, 1) := by decide +kernel
theorem dX8_order_148 : decode cX8_order 148 = .ok (.aload_n 0, 1) := by decide +kernel
theorem dX8_order_149 : decode cX8_order 149 = .ok (.getfield 70, 3) := by decide +kernel
theorem dX8_order_152 : decode cX8_order 152 = .ok (.iconst 0, 1) := by decide +kernel
theorem dX8_order_153 : decode cX8_order 153 = .ok (.iaload, 1) := by decide +kernel
theorem dX8_order_154 : decode cX8_order 154 = .ok (.invokevirtual 193, 3) := by decide +kernel
theorem dX8_order_157 : decode cX8_order 157 = .ok (.iload_n 2, 1) := by decide +kernel
theorem dX8_order_158 : decode cX8_order 158 = .ok (.if_icmp .ne 10, 3) := by decide +kernel
theorem dX8_order_161 : decode cX8_order 161 = .ok (.aload_n 0, 1) := by decide +kernel
theorem dX8_order_162 : decode cX8_order 162 = .ok (.iconst 3, 1) := by decide +kernel
theorem dX8_order_163 : decode cX8_order 163 = .ok (.ldc 221, 2) := by decide +kernel
theorem dX8_order_165 : decode cX8_order 165 = .ok (.invokevirtual 267, 3) := by decide +kernel
theorem dX8_order_168 : decode cX8_order 168 = .ok (.aload_n 0, 1) := by decide +kernel
theorem dX8_order_169 : decode cX8_order 169 = .ok (.getfield 258, 3) := by decide +kernel
theorem dX8_order_172 : decode cX8_order 172 = .ok (.ifCond .ne 44, 3) := by decide +kernel
theorem dX8_order_175 : decode cX8_order 175 = .ok (.iload_n 2, 1) := by decide +kernel
theorem dX8_order_176 : decode cX8_order 176 = .ok (.ifCond .eq 40, 3) := by decide +kernel
theorem dX8_order_179 : decode cX8_order 179 = .ok (.aload_n 0, 1) := by decide +kernel
theorem dX8_order_180 : decode cX8_order 180 = .ok (.aload_n 0, 1) := by decide +kernel
theorem dX8_order_181 : decode cX8_order 181 = .ok (.getfield 70, 3) := by decide +kernel
theorem dX8_order_184 : decode cX8_order 184 = .ok (.iconst 0, 1) := by decide +kernel
theorem dX8_order_185 : decode cX8_order 185 = .ok (.iaload, 1) := by decide +kernel
theorem dX8_order_186 : decode cX8_order 186 = .ok (.aload_n 0, 1) := by decide +kernel
theorem dX8_order_187 : decode cX8_order 187 = .ok (.getfield 70, 3) := by decide +kernel
theorem dX8_order_190 : decode cX8_order 190 = .ok (.iconst 1, 1) := by decide +kernel
theorem dX8_order_191 : decode cX8_order 191 = .ok (.iaload, 1) := by decide +kernel
theorem dX8_order_192 : decode cX8_order 192 = .ok (.aload_n 0, 1) := by decide +kernel
theorem dX8_order_193 : decode cX8_order 193 = .ok (.getfield 70, 3) := by decide +kernel
theorem dX8_order_196 : decode cX8_order 196 = .ok (.iconst 2, 1) := by decide +kernel
theorem dX8_order_197 : decode cX8_order 197 = .ok (.iaload, 1) := by decide +kernel
theorem dX8_order_198 : decode cX8_order 198 = .ok (.aload_n 0, 1) := by decide +kernel
theorem dX8_order_199 : decode cX8_order 199 = .ok (.getfield 70, 3) := by decide +kernel
theorem dX8_order_202 : decode cX8_order 202 = .ok (.iconst 3, 1) := by decide +kernel
theorem dX8_order_203 : decode cX8_order 203 = .ok (.iaload, 1) := by decide +kernel
theorem dX8_order_204 : decode cX8_order 204 = .ok (.aload_n 0, 1) := by decide +kernel
theorem dX8_order_205 : decode cX8_order 205 = .ok (.getfield 70, 3) := by decide +kernel
theorem dX8_order_208 : decode cX8_order 208 = .ok (.iconst 4, 1) := by decide +kernel
theorem dX8_order_209 : decode cX8_order 209 = .ok (.iaload, 1) := by decide +kernel
theorem dX8_order_210 : decode cX8_order 210 = .ok (.invokevirtual 202, 3) := by decide +kernel
theorem dX8_order_213 : decode cX8_order 213 = .ok (.goto 20, 3) := by decide +kernel
theorem dX8_order_216 : decode cX8_order 216 = .ok (.aload_n 0, 1) := by decide +kernel
theorem dX8_order_217 : decode cX8_order 217 = .ok (.getfield 258, 3) := by decide +kernel
theorem dX8_order_220 : decode cX8_order 220 = .ok (.ifCond .ne 13, 3) := by decide +kernel
theorem dX8_order_223 : decode cX8_order 223 = .ok (.aload_n 0, 1) := by decide +kernel
theorem dX8_order_224 : decode cX8_order 224 = .ok (.aload_n 0, 1) := by decide +kernel
theorem dX8_order_225 : decode cX8_order 225 = .ok (.getfield 70, 3) := by decide +kernel
theorem dX8_order_228 : decode cX8_order 228 = .ok (.iconst 0, 1) := by decide +kernel
theorem dX8_order_229 : decode cX8_order 229 = .ok (.iaload, 1) := by decide +kernel
theorem dX8_order_230 : decode cX8_order 230 = .ok (.invokevirtual 212, 3) := by decide +kernel
theorem dX8_order_233 : decode cX8_order 233 = .ok (.return_, 1) := by decide +kernel
theorem dX8_tries_0 : decode cX8_tries 0 = .ok (.aload_n 0, 1) := by decide +kernel
theorem dX8_tries_1 : decode cX8_tries 1 = .ok (.iconst 0, 1) := by decide +kernel
theorem dX8_tries_2 : decode cX8_tries 2 = .ok (.putfield 252, 3) := by decide +kernel
theorem dX8_tries_5 : decode cX8_tries 5 = .ok (.aload_n 0, 1) := by decide +kernel
theorem dX8_tries_6 : decode cX8_tries 6 = .ok (.iconst 0, 1) := by decide +kernel
theorem dX8_tries_7 : decode cX8_tries 7 = .ok (.putfield 273, 3) := by decide +kernel
theorem dX8_tries_10 : decode cX8_tries 10 = .ok (.aload_n 0, 1) := by decide +kernel
theorem dX8_tries_11 : decode cX8_tries 11 = .ok (.iconst 0, 1) := by decide +kernel
theorem dX8_tries_12 : decode cX8_tries 12 = .ok (.putfield 258, 3) := by decide +kernel
theorem dX8_tries_15 : decode cX8_tries 15 = .ok (.aload_n 0, 1) := by decide +kernel
theorem dX8_tries_16 : decode cX8_tries 16 = .ok (.getfield 252, 3) := by decide +kernel
theorem dX8_tries_19 : decode cX8_tries 19 = .ok (.aload_n 0, 1) := by decide +kernel
theorem dX8_tries_20 : decode cX8_tries 20 = .ok (.getfield 245, 3) := by decide +kernel
theorem dX8_tries_23 : decode cX8_tries 23 = .ok (.if_icmp .ge 27, 3) := by decide +kernel
theorem dX8_tries_26 : decode cX8_tries 26 = .ok (.aload_n 0, 1) := by decide +kernel
theorem dX8_tries_27 : decode cX8_tries 27 = .ok (.getfield 258, 3) := by decide +kernel
theorem dX8_tries_30 : decode cX8_tries 30 = .ok (.ifCond .ne 20, 3) := by decide +kernel
theorem dX8_tries_33 : decode cX8_tries 33 = .ok (.aload_n 0, 1) := by decide +kernel
theorem dX8_tries_34 : decode cX8_tries 34 = .ok (.invokevirtual 276, 3) := by decide +kernel
theorem dX8_tries_37 : decode cX8_tries 37 = .ok (.aload_n 0, 1) := by decide +kernel
theorem dX8_tries_38 : decode cX8_tries 38 = .ok (.dup, 1) := by decide +kernel
theorem dX8_tries_39 : decode cX8_tries 39 = .ok (.getfield 273, 3) := by decide +kernel
theorem dX8_tries_42 : decode cX8_tries 42 = .ok (.iconst 1, 1) := by decide +kernel
theorem dX8_tries_43 : decode cX8_tries 43 = .ok (.iadd, 1) := by decide +kernel
theorem dX8_tries_44 : decode cX8_tries 44 = .ok (.putfield 273, 3) := by decide +kernel
theorem dX8_tries_47 : decode cX8_tries 47 = .ok (.goto (-32), 3) := by decide +kernel
theorem dX8_tries_50 : decode cX8_tries 50 = .ok (.return_, 1) := by decide +kernel
theorem dX8_fault_0 : decode cX8_fault 0 = .ok (.iload_n 1, 1) := by decide +kernel
theorem dX8_fault_1 : decode cX8_fault 1 = .ok (.iconst 0, 1) := by decide +kernel
theorem dX8_fault_2 : decode cX8_fault 2 = .ok (.iconst 2, 1) := by decide +kernel
theorem dX8_fault_3 : decode cX8_fault 3 = .ok (.invokestatic 180, 3) := by decide +kernel
theorem dX8_fault_6 : decode cX8_fault 6 = .ok (.ifCond .ne 6, 3) := by decide +kernel
theorem dX8_fault_9 : decode cX8_fault 9 = .ok (.ldc 192, 2) := by decide +kernel
theorem dX8_fault_11 : decode cX8_fault 11 = .ok (.ireturn, 1) := by decide +kernel
theorem dX8_fault_12 : decode cX8_fault 12 = .ok (.aload_n 0, 1) := by decide +kernel
theorem dX8_fault_13 : decode cX8_fault 13 = .ok (.invokevirtual 196, 3) := by decide +kernel
theorem dX8_fault_16 : decode cX8_fault 16 = .ok (.aload_n 0, 1) := by decide +kernel
theorem dX8_fault_17 : decode cX8_fault 17 = .ok (.invokevirtual 279, 3) := by decide +kernel
theorem dX8_fault_20 : decode cX8_fault 20 = .ok (.aload_n 0, 1) := by decide +kernel
theorem dX8_fault_21 : decode cX8_fault 21 = .ok (.invokevirtual 236, 3) := by decide +kernel
theorem dX8_fault_24 : decode cX8_fault 24 = .ok (.aload_n 0, 1) := by decide +kernel
theorem dX8_fault_25 : decode cX8_fault 25 = .ok (.getfield 258, 3) := by decide +kernel
theorem dX8_fault_28 : decode cX8_fault 28 = .ok (.ifCond .ne 8, 3) := by decide +kernel
theorem dX8_fault_31 : decode cX8_fault 31 = .ok (.ldc 221, 2) := by decide +kernel
theorem dX8_fault_33 : decode cX8_fault 33 = .ok (.goto 30, 3) := by decide +kernel
theorem dX8_fault_36 : decode cX8_fault 36 = .ok (.iload_n 1, 1) := by decide +kernel
theorem dX8_fault_37 : decode cX8_fault 37 = .ok (.ifCond .ne 10, 3) := by decide +kernel
theorem dX8_fault_40 : decode cX8_fault 40 = .ok (.aload_n 0, 1) := by decide +kernel
theorem dX8_fault_41 : decode cX8_fault 41 = .ok (.getfield 264, 3) := by decide +kernel
theorem dX8_fault_44 : decode cX8_fault 44 = .ok (.goto 19, 3) := by decide +kernel
theorem dX8_fault_47 : decode cX8_fault 47 = .ok (.iload_n 1, 1) := by decide +kernel
theorem dX8_fault_48 : decode cX8_fault 48 = .ok (.iconst 1, 1) := by decide +kernel
theorem dX8_fault_49 : decode cX8_fault 49 = .ok (.if_icmp .ne 10, 3) := by decide +kernel
theorem dX8_fault_52 : decode cX8_fault 52 = .ok (.aload_n 0, 1) := by decide +kernel
theorem dX8_fault_53 : decode cX8_fault 53 = .ok (.getfield 258, 3) := by decide +kernel
theorem dX8_fault_56 : decode cX8_fault 56 = .ok (.goto 7, 3) := by decide +kernel
theorem dX8_fault_59 : decode cX8_fault 59 = .ok (.aload_n 0, 1) := by decide +kernel
theorem dX8_fault_60 : decode cX8_fault 60 = .ok (.getfield 261, 3) := by decide +kernel
theorem dX8_fault_63 : decode cX8_fault 63 = .ok (.ireturn, 1) := by decide +kernel
theorem dX8_play_0 : decode cX8_play 0 = .ok (.aload_n 0, 1) := by decide +kernel
theorem dX8_play_1 : decode cX8_play 1 = .ok (.invokevirtual 196, 3) := by decide +kernel
theorem dX8_play_4 : decode cX8_play 4 = .ok (.aload_n 0, 1) := by decide +kernel
theorem dX8_play_5 : decode cX8_play 5 = .ok (.invokevirtual 279, 3) := by decide +kernel
theorem dX8_play_8 : decode cX8_play 8 = .ok (.aload_n 0, 1) := by decide +kernel
theorem dX8_play_9 : decode cX8_play 9 = .ok (.getfield 258, 3) := by decide +kernel
theorem dX8_play_12 : decode cX8_play 12 = .ok (.ifCond .eq 10, 3) := by decide +kernel
theorem dX8_play_15 : decode cX8_play 15 = .ok (.aload_n 0, 1) := by decide +kernel
theorem dX8_play_16 : decode cX8_play 16 = .ok (.invokevirtual 236, 3) := by decide +kernel
theorem dX8_play_19 : decode cX8_play 19 = .ok (.ldc 80, 2) := by decide +kernel
theorem dX8_play_21 : decode cX8_play 21 = .ok (.ireturn, 1) := by decide +kernel
theorem dX8_play_22 : decode cX8_play 22 = .ok (.aload_n 0, 1) := by decide +kernel
theorem dX8_play_23 : decode cX8_play 23 = .ok (.invokevirtual 199, 3) := by decide +kernel
theorem dX8_play_26 : decode cX8_play 26 = .ok (.aload_n 0, 1) := by decide +kernel
theorem dX8_play_27 : decode cX8_play 27 = .ok (.getfield 273, 3) := by decide +kernel
theorem dX8_play_30 : decode cX8_play 30 = .ok (.ifCond .le 7, 3) := by decide +kernel
theorem dX8_play_33 : decode cX8_play 33 = .ok (.aload_n 0, 1) := by decide +kernel
theorem dX8_play_34 : decode cX8_play 34 = .ok (.invokevirtual 206, 3) := by decide +kernel
theorem dX8_play_37 : decode cX8_play 37 = .ok (.aload_n 0, 1) := by decide +kernel
theorem dX8_play_38 : decode cX8_play 38 = .ok (.getfield 273, 3) := by decide +kernel
theorem dX8_play_41 : decode cX8_play 41 = .ok (.ireturn, 1) := by decide +kernel
