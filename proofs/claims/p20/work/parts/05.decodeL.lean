theorem dL_cell_0 : decode cL_cell 0 = .ok (.iload_n 1, 1) := by decide +kernel
theorem dL_cell_1 : decode cL_cell 1 = .ok (.aload_n 0, 1) := by decide +kernel
theorem dL_cell_2 : decode cL_cell 2 = .ok (.arraylength, 1) := by decide +kernel
theorem dL_cell_3 : decode cL_cell 3 = .ok (.if_icmp .ge 9, 3) := by decide +kernel
theorem dL_cell_6 : decode cL_cell 6 = .ok (.aload_n 0, 1) := by decide +kernel
theorem dL_cell_7 : decode cL_cell 7 = .ok (.iload_n 1, 1) := by decide +kernel
theorem dL_cell_8 : decode cL_cell 8 = .ok (.iaload, 1) := by decide +kernel
theorem dL_cell_9 : decode cL_cell 9 = .ok (.goto 9, 3) := by decide +kernel
theorem dL_cell_12 : decode cL_cell 12 = .ok (.ldc 7, 2) := by decide +kernel
theorem dL_cell_14 : decode cL_cell 14 = .ok (.iload_n 1, 1) := by decide +kernel
theorem dL_cell_15 : decode cL_cell 15 = .ok (.iconst 1, 1) := by decide +kernel
theorem dL_cell_16 : decode cL_cell 16 = .ok (.iadd, 1) := by decide +kernel
theorem dL_cell_17 : decode cL_cell 17 = .ok (.imul, 1) := by decide +kernel
theorem dL_cell_18 : decode cL_cell 18 = .ok (.ireturn, 1) := by decide +kernel
theorem dL_low_0 : decode cL_low 0 = .ok (.iload_n 0, 1) := by decide +kernel
theorem dL_low_1 : decode cL_low 1 = .ok (.ldc 8, 2) := by decide +kernel
theorem dL_low_3 : decode cL_low 3 = .ok (.iand, 1) := by decide +kernel
theorem dL_low_4 : decode cL_low 4 = .ok (.iload_n 1, 1) := by decide +kernel
theorem dL_low_5 : decode cL_low 5 = .ok (.irem, 1) := by decide +kernel
theorem dL_low_6 : decode cL_low 6 = .ok (.ireturn, 1) := by decide +kernel
theorem dL_lesser_0 : decode cL_lesser 0 = .ok (.iload_n 0, 1) := by decide +kernel
theorem dL_lesser_1 : decode cL_lesser 1 = .ok (.iload_n 1, 1) := by decide +kernel
theorem dL_lesser_2 : decode cL_lesser 2 = .ok (.if_icmp .ge 7, 3) := by decide +kernel
theorem dL_lesser_5 : decode cL_lesser 5 = .ok (.iload_n 0, 1) := by decide +kernel
theorem dL_lesser_6 : decode cL_lesser 6 = .ok (.goto 4, 3) := by decide +kernel
theorem dL_lesser_9 : decode cL_lesser 9 = .ok (.iload_n 1, 1) := by decide +kernel
theorem dL_lesser_10 : decode cL_lesser 10 = .ok (.ireturn, 1) := by decide +kernel
theorem dL_greater_0 : decode cL_greater 0 = .ok (.iload_n 0, 1) := by decide +kernel
theorem dL_greater_1 : decode cL_greater 1 = .ok (.iload_n 1, 1) := by decide +kernel
theorem dL_greater_2 : decode cL_greater 2 = .ok (.if_icmp .le 7, 3) := by decide +kernel
theorem dL_greater_5 : decode cL_greater 5 = .ok (.iload_n 0, 1) := by decide +kernel
theorem dL_greater_6 : decode cL_greater 6 = .ok (.goto 4, 3) := by decide +kernel
theorem dL_greater_9 : decode cL_greater 9 = .ok (.iload_n 1, 1) := by decide +kernel
theorem dL_greater_10 : decode cL_greater 10 = .ok (.ireturn, 1) := by decide +kernel
theorem dL_print_0 : decode cL_print 0 = .ok (.ldc2_w 9, 3) := by decide +kernel
theorem dL_print_3 : decode cL_print 3 = .ok (.lstore_n 1, 1) := by decide +kernel
theorem dL_print_4 : decode cL_print 4 = .ok (.iconst 0, 1) := by decide +kernel
theorem dL_print_5 : decode cL_print 5 = .ok (.istore_n 3, 1) := by decide +kernel
theorem dL_print_6 : decode cL_print 6 = .ok (.iload_n 3, 1) := by decide +kernel
theorem dL_print_7 : decode cL_print 7 = .ok (.bipush 11, 2) := by decide +kernel
theorem dL_print_9 : decode cL_print 9 = .ok (.if_icmp .ge 43, 3) := by decide +kernel
theorem dL_print_12 : decode cL_print 12 = .ok (.ldc2_w 11, 3) := by decide +kernel
theorem dL_print_15 : decode cL_print 15 = .ok (.lload_n 1, 1) := by decide +kernel
theorem dL_print_16 : decode cL_print 16 = .ok (.lmul, 1) := by decide +kernel
theorem dL_print_17 : decode cL_print 17 = .ok (.iload_n 3, 1) := by decide +kernel
theorem dL_print_18 : decode cL_print 18 = .ok (.iconst 4, 1) := by decide +kernel
theorem dL_print_19 : decode cL_print 19 = .ok (.if_icmp .eq 15, 3) := by decide +kernel
theorem dL_print_22 : decode cL_print 22 = .ok (.iload_n 3, 1) := by decide +kernel
theorem dL_print_23 : decode cL_print 23 = .ok (.bipush 8, 2) := by decide +kernel
theorem dL_print_25 : decode cL_print 25 = .ok (.if_icmp .eq 9, 3) := by decide +kernel
theorem dL_print_28 : decode cL_print 28 = .ok (.iload_n 3, 1) := by decide +kernel
theorem dL_print_29 : decode cL_print 29 = .ok (.bipush 9, 2) := by decide +kernel
theorem dL_print_31 : decode cL_print 31 = .ok (.if_icmp .ne 7, 3) := by decide +kernel
theorem dL_print_34 : decode cL_print 34 = .ok (.iconst 0, 1) := by decide +kernel
theorem dL_print_35 : decode cL_print 35 = .ok (.goto 8, 3) := by decide +kernel
theorem dL_print_38 : decode cL_print 38 = .ok (.aload_n 0, 1) := by decide +kernel
theorem dL_print_39 : decode cL_print 39 = .ok (.iload_n 3, 1) := by decide +kernel
theorem dL_print_40 : decode cL_print 40 = .ok (.invokevirtual 13, 3) := by decide +kernel
theorem dL_print_43 : decode cL_print 43 = .ok (.i2l, 1) := by decide +kernel
theorem dL_print_44 : decode cL_print 44 = .ok (.ladd, 1) := by decide +kernel
theorem dL_print_45 : decode cL_print 45 = .ok (.lstore_n 1, 1) := by decide +kernel
theorem dL_print_46 : decode cL_print 46 = .ok (.iinc 3 1, 3) := by decide +kernel
theorem dL_print_49 : decode cL_print 49 = .ok (.goto (-43), 3) := by decide +kernel
theorem dL_print_52 : decode cL_print 52 = .ok (.iconst 0, 1) := by decide +kernel
theorem dL_print_53 : decode cL_print 53 = .ok (.istore_n 3, 1) := by decide +kernel
theorem dL_print_54 : decode cL_print 54 = .ok (.iload_n 3, 1) := by decide +kernel
theorem dL_print_55 : decode cL_print 55 = .ok (.bipush 31, 2) := by decide +kernel
theorem dL_print_57 : decode cL_print 57 = .ok (.if_icmp .ge 40, 3) := by decide +kernel
theorem dL_print_60 : decode cL_print 60 = .ok (.iconst 0, 1) := by decide +kernel
theorem dL_print_61 : decode cL_print 61 = .ok (.istore 4, 2) := by decide +kernel
theorem dL_print_63 : decode cL_print 63 = .ok (.iload 4, 2) := by decide +kernel
theorem dL_print_65 : decode cL_print 65 = .ok (.bipush 6, 2) := by decide +kernel
theorem dL_print_67 : decode cL_print 67 = .ok (.if_icmp .ge 24, 3) := by decide +kernel
theorem dL_print_70 : decode cL_print 70 = .ok (.ldc2_w 11, 3) := by decide +kernel
theorem dL_print_73 : decode cL_print 73 = .ok (.lload_n 1, 1) := by decide +kernel
theorem dL_print_74 : decode cL_print 74 = .ok (.lmul, 1) := by decide +kernel
theorem dL_print_75 : decode cL_print 75 = .ok (.aload_n 0, 1) := by decide +kernel
theorem dL_print_76 : decode cL_print 76 = .ok (.iload_n 3, 1) := by decide +kernel
theorem dL_print_77 : decode cL_print 77 = .ok (.iload 4, 2) := by decide +kernel
theorem dL_print_79 : decode cL_print 79 = .ok (.invokevirtual 19, 3) := by decide +kernel
theorem dL_print_82 : decode cL_print 82 = .ok (.i2l, 1) := by decide +kernel
theorem dL_print_83 : decode cL_print 83 = .ok (.ladd, 1) := by decide +kernel
theorem dL_print_84 : decode cL_print 84 = .ok (.lstore_n 1, 1) := by decide +kernel
theorem dL_print_85 : decode cL_print 85 = .ok (.iinc 4 1, 3) := by decide +kernel
theorem dL_print_88 : decode cL_print 88 = .ok (.goto (-25), 3) := by decide +kernel
theorem dL_print_91 : decode cL_print 91 = .ok (.iinc 3 1, 3) := by decide +kernel
theorem dL_print_94 : decode cL_print 94 = .ok (.goto (-40), 3) := by decide +kernel
theorem dL_print_97 : decode cL_print 97 = .ok (.iconst 0, 1) := by decide +kernel
theorem dL_print_98 : decode cL_print 98 = .ok (.istore_n 3, 1) := by decide +kernel
theorem dL_print_99 : decode cL_print 99 = .ok (.iload_n 3, 1) := by decide +kernel
theorem dL_print_100 : decode cL_print 100 = .ok (.aload_n 0, 1) := by decide +kernel
theorem dL_print_101 : decode cL_print 101 = .ok (.iconst 1, 1) := by decide +kernel
theorem dL_print_102 : decode cL_print 102 = .ok (.invokevirtual 13, 3) := by decide +kernel
theorem dL_print_105 : decode cL_print 105 = .ok (.if_icmp .ge 75, 3) := by decide +kernel
theorem dL_print_108 : decode cL_print 108 = .ok (.iconst 0, 1) := by decide +kernel
theorem dL_print_109 : decode cL_print 109 = .ok (.istore 4, 2) := by decide +kernel
theorem dL_print_111 : decode cL_print 111 = .ok (.aload_n 0, 1) := by decide +kernel
theorem dL_print_112 : decode cL_print 112 = .ok (.iload_n 3, 1) := by decide +kernel
theorem dL_print_113 : decode cL_print 113 = .ok (.iload 4, 2) := by decide +kernel
theorem dL_print_115 : decode cL_print 115 = .ok (.iconst 4, 1) := by decide +kernel
theorem dL_print_116 : decode cL_print 116 = .ok (.invokevirtual 23, 3) := by decide +kernel
theorem dL_print_119 : decode cL_print 119 = .ok (.ifCond .lt 42, 3) := by decide +kernel
theorem dL_print_122 : decode cL_print 122 = .ok (.iconst 0, 1) := by decide +kernel
theorem dL_print_123 : decode cL_print 123 = .ok (.istore 5, 2) := by decide +kernel
theorem dL_print_125 : decode cL_print 125 = .ok (.iload 5, 2) := by decide +kernel
theorem dL_print_127 : decode cL_print 127 = .ok (.bipush 6, 2) := by decide +kernel
theorem dL_print_129 : decode cL_print 129 = .ok (.if_icmp .ge 26, 3) := by decide +kernel
theorem dL_print_132 : decode cL_print 132 = .ok (.ldc2_w 11, 3) := by decide +kernel
theorem dL_print_135 : decode cL_print 135 = .ok (.lload_n 1, 1) := by decide +kernel
theorem dL_print_136 : decode cL_print 136 = .ok (.lmul, 1) := by decide +kernel
theorem dL_print_137 : decode cL_print 137 = .ok (.aload_n 0, 1) := by decide +kernel
theorem dL_print_138 : decode cL_print 138 = .ok (.iload_n 3, 1) := by decide +kernel
theorem dL_print_139 : decode cL_print 139 = .ok (.iload 4, 2) := by decide +kernel
theorem dL_print_141 : decode cL_print 141 = .ok (.iload 5, 2) := by decide +kernel
theorem dL_print_143 : decode cL_print 143 = .ok (.invokevirtual 23, 3) := by decide +kernel
theorem dL_print_146 : decode cL_print 146 = .ok (.i2l, 1) := by decide +kernel
theorem dL_print_147 : decode cL_print 147 = .ok (.ladd, 1) := by decide +kernel
theorem dL_print_148 : decode cL_print 148 = .ok (.lstore_n 1, 1) := by decide +kernel
theorem dL_print_149 : decode cL_print 149 = .ok (.iinc 5 1, 3) := by decide +kernel
theorem dL_print_152 : decode cL_print 152 = .ok (.goto (-27), 3) := by decide +kernel
theorem dL_print_155 : decode cL_print 155 = .ok (.iinc 4 1, 3) := by decide +kernel
theorem dL_print_158 : decode cL_print 158 = .ok (.goto (-47), 3) := by decide +kernel
theorem dL_print_161 : decode cL_print 161 = .ok (.ldc2_w 11, 3) := by decide +kernel
theorem dL_print_164 : decode cL_print 164 = .ok (.lload_n 1, 1) := by decide +kernel
theorem dL_print_165 : decode cL_print 165 = .ok (.lmul, 1) := by decide +kernel
theorem dL_print_166 : decode cL_print 166 = .ok (.aload_n 0, 1) := by decide +kernel
theorem dL_print_167 : decode cL_print 167 = .ok (.iload_n 3, 1) := by decide +kernel
theorem dL_print_168 : decode cL_print 168 = .ok (.invokevirtual 27, 3) := by decide +kernel
theorem dL_print_171 : decode cL_print 171 = .ok (.i2l, 1) := by decide +kernel
theorem dL_print_172 : decode cL_print 172 = .ok (.ladd, 1) := by decide +kernel
theorem dL_print_173 : decode cL_print 173 = .ok (.lstore_n 1, 1) := by decide +kernel
theorem dL_print_174 : decode cL_print 174 = .ok (.iinc 3 1, 3) := by decide +kernel
theorem dL_print_177 : decode cL_print 177 = .ok (.goto (-78), 3) := by decide +kernel
theorem dL_print_180 : decode cL_print 180 = .ok (.lload_n 1, 1) := by decide +kernel
theorem dL_print_181 : decode cL_print 181 = .ok (.lreturn, 1) := by decide +kernel
theorem dL_refused_0 : decode cL_refused 0 = .ok (.aload_n 0, 1) := by decide +kernel
theorem dL_refused_1 : decode cL_refused 1 = .ok (.invokestatic 30, 3) := by decide +kernel
theorem dL_refused_4 : decode cL_refused 4 = .ok (.lstore_n 2, 1) := by decide +kernel
theorem dL_refused_5 : decode cL_refused 5 = .ok (.aload_n 0, 1) := by decide +kernel
theorem dL_refused_6 : decode cL_refused 6 = .ok (.bipush 8, 2) := by decide +kernel
theorem dL_refused_8 : decode cL_refused 8 = .ok (.invokevirtual 13, 3) := by decide +kernel
theorem dL_refused_11 : decode cL_refused 11 = .ok (.istore 4, 2) := by decide +kernel
theorem dL_refused_13 : decode cL_refused 13 = .ok (.aload_n 0, 1) := by decide +kernel
theorem dL_refused_14 : decode cL_refused 14 = .ok (.iconst 4, 1) := by decide +kernel
theorem dL_refused_15 : decode cL_refused 15 = .ok (.invokevirtual 13, 3) := by decide +kernel
theorem dL_refused_18 : decode cL_refused 18 = .ok (.istore 5, 2) := by decide +kernel
theorem dL_refused_20 : decode cL_refused 20 = .ok (.aload_n 0, 1) := by decide +kernel
theorem dL_refused_21 : decode cL_refused 21 = .ok (.iconst 1, 1) := by decide +kernel
theorem dL_refused_22 : decode cL_refused 22 = .ok (.invokevirtual 13, 3) := by decide +kernel
theorem dL_refused_25 : decode cL_refused 25 = .ok (.istore 6, 2) := by decide +kernel
theorem dL_refused_27 : decode cL_refused 27 = .ok (.aload_n 0, 1) := by decide +kernel
theorem dL_refused_28 : decode cL_refused 28 = .ok (.bipush 31, 2) := by decide +kernel
theorem dL_refused_30 : decode cL_refused 30 = .ok (.iconst 0, 1) := by decide +kernel
theorem dL_refused_31 : decode cL_refused 31 = .ok (.iconst 0, 1) := by decide +kernel
theorem dL_refused_32 : decode cL_refused 32 = .ok (.iconst 1, 1) := by decide +kernel
theorem dL_refused_33 : decode cL_refused 33 = .ok (.iconst 1, 1) := by decide +kernel
theorem dL_refused_34 : decode cL_refused 34 = .ok (.invokevirtual 36, 3) := by decide +kernel
theorem dL_refused_37 : decode cL_refused 37 = .ok (.ldc 40, 2) := by decide +kernel
theorem dL_refused_39 : decode cL_refused 39 = .ok (.if_icmp .ne 246, 3) := by decide +kernel
theorem dL_refused_42 : decode cL_refused 42 = .ok (.aload_n 0, 1) := by decide +kernel
theorem dL_refused_43 : decode cL_refused 43 = .ok (.iconst (-1), 1) := by decide +kernel
theorem dL_refused_44 : decode cL_refused 44 = .ok (.iconst 0, 1) := by decide +kernel
theorem dL_refused_45 : decode cL_refused 45 = .ok (.iconst 0, 1) := by decide +kernel
theorem dL_refused_46 : decode cL_refused 46 = .ok (.iconst 1, 1) := by decide +kernel
theorem dL_refused_47 : decode cL_refused 47 = .ok (.iconst 1, 1) := by decide +kernel
theorem dL_refused_48 : decode cL_refused 48 = .ok (.invokevirtual 36, 3) := by decide +kernel
theorem dL_refused_51 : decode cL_refused 51 = .ok (.ldc 40, 2) := by decide +kernel
theorem dL_refused_53 : decode cL_refused 53 = .ok (.if_icmp .ne 232, 3) := by decide +kernel
theorem dL_refused_56 : decode cL_refused 56 = .ok (.aload_n 0, 1) := by decide +kernel
theorem dL_refused_57 : decode cL_refused 57 = .ok (.iload_n 1, 1) := by decide +kernel
theorem dL_refused_58 : decode cL_refused 58 = .ok (.iconst 2, 1) := by decide +kernel
theorem dL_refused_59 : decode cL_refused 59 = .ok (.iconst 0, 1) := by decide +kernel
theorem dL_refused_60 : decode cL_refused 60 = .ok (.iconst 1, 1) := by decide +kernel
theorem dL_refused_61 : decode cL_refused 61 = .ok (.iconst 1, 1) := by decide +kernel
theorem dL_refused_62 : decode cL_refused 62 = .ok (.invokevirtual 36, 3) := by decide +kernel
theorem dL_refused_65 : decode cL_refused 65 = .ok (.ldc 40, 2) := by decide +kernel
theorem dL_refused_67 : decode cL_refused 67 = .ok (.if_icmp .ne 218, 3) := by decide +kernel
theorem dL_refused_70 : decode cL_refused 70 = .ok (.aload_n 0, 1) := by decide +kernel
theorem dL_refused_71 : decode cL_refused 71 = .ok (.iload_n 1, 1) := by decide +kernel
theorem dL_refused_72 : decode cL_refused 72 = .ok (.iconst 0, 1) := by decide +kernel
theorem dL_refused_73 : decode cL_refused 73 = .ok (.iconst 2, 1) := by decide +kernel
theorem dL_refused_74 : decode cL_refused 74 = .ok (.iconst 1, 1) := by decide +kernel
theorem dL_refused_75 : decode cL_refused 75 = .ok (.iconst 1, 1) := by decide +kernel
theorem dL_refused_76 : decode cL_refused 76 = .ok (.invokevirtual 36, 3) := by decide +kernel
theorem dL_refused_79 : decode cL_refused 79 = .ok (.ldc 40, 2) := by decide +kernel
theorem dL_refused_81 : decode cL_refused 81 = .ok (.if_icmp .ne 204, 3) := by decide +kernel
theorem dL_refused_84 : decode cL_refused 84 = .ok (.aload_n 0, 1) := by decide +kernel
theorem dL_refused_85 : decode cL_refused 85 = .ok (.iload_n 1, 1) := by decide +kernel
theorem dL_refused_86 : decode cL_refused 86 = .ok (.iconst 0, 1) := by decide +kernel
theorem dL_refused_87 : decode cL_refused 87 = .ok (.iconst 0, 1) := by decide +kernel
theorem dL_refused_88 : decode cL_refused 88 = .ok (.bipush 100, 2) := by decide +kernel
theorem dL_refused_90 : decode cL_refused 90 = .ok (.iconst 1, 1) := by decide +kernel
theorem dL_refused_91 : decode cL_refused 91 = .ok (.invokevirtual 36, 3) := by decide +kernel
theorem dL_refused_94 : decode cL_refused 94 = .ok (.ldc 40, 2) := by decide +kernel
theorem dL_refused_96 : decode cL_refused 96 = .ok (.if_icmp .ne 189, 3) := by decide +kernel
theorem dL_refused_99 : decode cL_refused 99 = .ok (.aload_n 0, 1) := by decide +kernel
theorem dL_refused_100 : decode cL_refused 100 = .ok (.iload_n 1, 1) := by decide +kernel
theorem dL_refused_101 : decode cL_refused 101 = .ok (.iconst (-1), 1) := by decide +kernel
theorem dL_refused_102 : decode cL_refused 102 = .ok (.iconst 0, 1) := by decide +kernel
theorem dL_refused_103 : decode cL_refused 103 = .ok (.iconst 1, 1) := by decide +kernel
theorem dL_refused_104 : decode cL_refused 104 = .ok (.iconst 1, 1) := by decide +kernel
theorem dL_refused_105 : decode cL_refused 105 = .ok (.invokevirtual 36, 3) := by decide +kernel
theorem dL_refused_108 : decode cL_refused 108 = .ok (.ldc 40, 2) := by decide +kernel
theorem dL_refused_110 : decode cL_refused 110 = .ok (.if_icmp .ne 175, 3) := by decide +kernel
theorem dL_refused_113 : decode cL_refused 113 = .ok (.aload_n 0, 1) := by decide +kernel
theorem dL_refused_114 : decode cL_refused 114 = .ok (.bipush 31, 2) := by decide +kernel
theorem dL_refused_116 : decode cL_refused 116 = .ok (.invokevirtual 41, 3) := by decide +kernel
theorem dL_refused_119 : decode cL_refused 119 = .ok (.ldc 40, 2) := by decide +kernel
theorem dL_refused_121 : decode cL_refused 121 = .ok (.if_icmp .ne 164, 3) := by decide +kernel
theorem dL_refused_124 : decode cL_refused 124 = .ok (.aload_n 0, 1) := by decide +kernel
theorem dL_refused_125 : decode cL_refused 125 = .ok (.bipush 31, 2) := by decide +kernel
theorem dL_refused_127 : decode cL_refused 127 = .ok (.iconst 0, 1) := by decide +kernel
theorem dL_refused_128 : decode cL_refused 128 = .ok (.invokevirtual 19, 3) := by decide +kernel
theorem dL_refused_131 : decode cL_refused 131 = .ok (.ldc 40, 2) := by decide +kernel
theorem dL_refused_133 : decode cL_refused 133 = .ok (.if_icmp .ne 152, 3) := by decide +kernel
theorem dL_refused_136 : decode cL_refused 136 = .ok (.aload_n 0, 1) := by decide +kernel
theorem dL_refused_137 : decode cL_refused 137 = .ok (.iload_n 1, 1) := by decide +kernel
theorem dL_refused_138 : decode cL_refused 138 = .ok (.bipush 6, 2) := by decide +kernel
theorem dL_refused_140 : decode cL_refused 140 = .ok (.invokevirtual 19, 3) := by decide +kernel
theorem dL_refused_143 : decode cL_refused 143 = .ok (.ldc 40, 2) := by decide +kernel
theorem dL_refused_145 : decode cL_refused 145 = .ok (.if_icmp .ne 140, 3) := by decide +kernel
theorem dL_refused_148 : decode cL_refused 148 = .ok (.aload_n 0, 1) := by decide +kernel
theorem dL_refused_149 : decode cL_refused 149 = .ok (.iconst (-1), 1) := by decide +kernel
theorem dL_refused_150 : decode cL_refused 150 = .ok (.iconst 0, 1) := by decide +kernel
theorem dL_refused_151 : decode cL_refused 151 = .ok (.iconst 0, 1) := by decide +kernel
theorem dL_refused_152 : decode cL_refused 152 = .ok (.invokevirtual 23, 3) := by decide +kernel
theorem dL_refused_155 : decode cL_refused 155 = .ok (.ldc 40, 2) := by decide +kernel
theorem dL_refused_157 : decode cL_refused 157 = .ok (.if_icmp .ne 128, 3) := by decide +kernel
theorem dL_refused_160 : decode cL_refused 160 = .ok (.aload_n 0, 1) := by decide +kernel
theorem dL_refused_161 : decode cL_refused 161 = .ok (.iconst 0, 1) := by decide +kernel
theorem dL_refused_162 : decode cL_refused 162 = .ok (.iconst (-1), 1) := by decide +kernel
theorem dL_refused_163 : decode cL_refused 163 = .ok (.iconst 0, 1) := by decide +kernel
theorem dL_refused_164 : decode cL_refused 164 = .ok (.invokevirtual 23, 3) := by decide +kernel
theorem dL_refused_167 : decode cL_refused 167 = .ok (.ldc 40, 2) := by decide +kernel
theorem dL_refused_169 : decode cL_refused 169 = .ok (.if_icmp .ne 116, 3) := by decide +kernel
theorem dL_refused_172 : decode cL_refused 172 = .ok (.aload_n 0, 1) := by decide +kernel
theorem dL_refused_173 : decode cL_refused 173 = .ok (.iconst 0, 1) := by decide +kernel
theorem dL_refused_174 : decode cL_refused 174 = .ok (.iconst 0, 1) := by decide +kernel
theorem dL_refused_175 : decode cL_refused 175 = .ok (.bipush 6, 2) := by decide +kernel
theorem dL_refused_177 : decode cL_refused 177 = .ok (.invokevirtual 23, 3) := by decide +kernel
theorem dL_refused_180 : decode cL_refused 180 = .ok (.ldc 40, 2) := by decide +kernel
theorem dL_refused_182 : decode cL_refused 182 = .ok (.if_icmp .ne 103, 3) := by decide +kernel
theorem dL_refused_185 : decode cL_refused 185 = .ok (.aload_n 0, 1) := by decide +kernel
theorem dL_refused_186 : decode cL_refused 186 = .ok (.iload 6, 2) := by decide +kernel
theorem dL_refused_188 : decode cL_refused 188 = .ok (.iconst 0, 1) := by decide +kernel
theorem dL_refused_189 : decode cL_refused 189 = .ok (.iconst 4, 1) := by decide +kernel
theorem dL_refused_190 : decode cL_refused 190 = .ok (.invokevirtual 23, 3) := by decide +kernel
theorem dL_refused_193 : decode cL_refused 193 = .ok (.ldc 44, 2) := by decide +kernel
theorem dL_refused_195 : decode cL_refused 195 = .ok (.if_icmp .ne 90, 3) := by decide +kernel
theorem dL_refused_198 : decode cL_refused 198 = .ok (.aload_n 0, 1) := by decide +kernel
theorem dL_refused_199 : decode cL_refused 199 = .ok (.iconst 0, 1) := by decide +kernel
theorem dL_refused_200 : decode cL_refused 200 = .ok (.aload_n 0, 1) := by decide +kernel
theorem dL_refused_201 : decode cL_refused 201 = .ok (.iconst 3, 1) := by decide +kernel
theorem dL_refused_202 : decode cL_refused 202 = .ok (.invokevirtual 13, 3) := by decide +kernel
theorem dL_refused_205 : decode cL_refused 205 = .ok (.iconst 4, 1) := by decide +kernel
theorem dL_refused_206 : decode cL_refused 206 = .ok (.invokevirtual 23, 3) := by decide +kernel
theorem dL_refused_209 : decode cL_refused 209 = .ok (.ldc 44, 2) := by decide +kernel
theorem dL_refused_211 : decode cL_refused 211 = .ok (.if_icmp .ne 74, 3) := by decide +kernel
theorem dL_refused_214 : decode cL_refused 214 = .ok (.aload_n 0, 1) := by decide +kernel
theorem dL_refused_215 : decode cL_refused 215 = .ok (.iconst (-1), 1) := by decide +kernel
theorem dL_refused_216 : decode cL_refused 216 = .ok (.invokevirtual 27, 3) := by decide +kernel
theorem dL_refused_219 : decode cL_refused 219 = .ok (.ldc 40, 2) := by decide +kernel
theorem dL_refused_221 : decode cL_refused 221 = .ok (.if_icmp .ne 64, 3) := by decide +kernel
theorem dL_refused_224 : decode cL_refused 224 = .ok (.aload_n 0, 1) := by decide +kernel
theorem dL_refused_225 : decode cL_refused 225 = .ok (.iload 6, 2) := by decide +kernel
theorem dL_refused_227 : decode cL_refused 227 = .ok (.invokevirtual 27, 3) := by decide +kernel
theorem dL_refused_230 : decode cL_refused 230 = .ok (.ldc 44, 2) := by decide +kernel
theorem dL_refused_232 : decode cL_refused 232 = .ok (.if_icmp .ne 53, 3) := by decide +kernel
theorem dL_refused_235 : decode cL_refused 235 = .ok (.aload_n 0, 1) := by decide +kernel
theorem dL_refused_236 : decode cL_refused 236 = .ok (.iconst 0, 1) := by decide +kernel
theorem dL_refused_237 : decode cL_refused 237 = .ok (.bipush 31, 2) := by decide +kernel
theorem dL_refused_239 : decode cL_refused 239 = .ok (.invokevirtual 45, 3) := by decide +kernel
theorem dL_refused_242 : decode cL_refused 242 = .ok (.ldc 40, 2) := by decide +kernel
theorem dL_refused_244 : decode cL_refused 244 = .ok (.if_icmp .ne 41, 3) := by decide +kernel
theorem dL_refused_247 : decode cL_refused 247 = .ok (.aload_n 0, 1) := by decide +kernel
theorem dL_refused_248 : decode cL_refused 248 = .ok (.iconst (-1), 1) := by decide +kernel
theorem dL_refused_249 : decode cL_refused 249 = .ok (.iconst 0, 1) := by decide +kernel
theorem dL_refused_250 : decode cL_refused 250 = .ok (.invokevirtual 48, 3) := by decide +kernel
theorem dL_refused_253 : decode cL_refused 253 = .ok (.ldc 40, 2) := by decide +kernel
theorem dL_refused_255 : decode cL_refused 255 = .ok (.if_icmp .ne 30, 3) := by decide +kernel
theorem dL_refused_258 : decode cL_refused 258 = .ok (.aload_n 0, 1) := by decide +kernel
theorem dL_refused_259 : decode cL_refused 259 = .ok (.iconst 0, 1) := by decide +kernel
theorem dL_refused_260 : decode cL_refused 260 = .ok (.iconst 2, 1) := by decide +kernel
theorem dL_refused_261 : decode cL_refused 261 = .ok (.invokevirtual 48, 3) := by decide +kernel
theorem dL_refused_264 : decode cL_refused 264 = .ok (.ldc 40, 2) := by decide +kernel
theorem dL_refused_266 : decode cL_refused 266 = .ok (.if_icmp .ne 19, 3) := by decide +kernel
theorem dL_refused_269 : decode cL_refused 269 = .ok (.aload_n 0, 1) := by decide +kernel
theorem dL_refused_270 : decode cL_refused 270 = .ok (.iload 5, 2) := by decide +kernel
theorem dL_refused_272 : decode cL_refused 272 = .ok (.iconst 0, 1) := by decide +kernel
theorem dL_refused_273 : decode cL_refused 273 = .ok (.invokevirtual 48, 3) := by decide +kernel
theorem dL_refused_276 : decode cL_refused 276 = .ok (.ldc 44, 2) := by decide +kernel
theorem dL_refused_278 : decode cL_refused 278 = .ok (.if_icmp .ne 7, 3) := by decide +kernel
theorem dL_refused_281 : decode cL_refused 281 = .ok (.iconst 1, 1) := by decide +kernel
theorem dL_refused_282 : decode cL_refused 282 = .ok (.goto 4, 3) := by decide +kernel
theorem dL_refused_285 : decode cL_refused 285 = .ok (.iconst 0, 1) := by decide +kernel
theorem dL_refused_286 : decode cL_refused 286 = .ok (.istore 7, 2) := by decide +kernel
theorem dL_refused_288 : decode cL_refused 288 = .ok (.iload 7, 2) := by decide +kernel
theorem dL_refused_290 : decode cL_refused 290 = .ok (.ifCond .eq 174, 3) := by decide +kernel
theorem dL_refused_293 : decode cL_refused 293 = .ok (.aload_n 0, 1) := by decide +kernel
theorem dL_refused_294 : decode cL_refused 294 = .ok (.iconst 0, 1) := by decide +kernel
theorem dL_refused_295 : decode cL_refused 295 = .ok (.iconst 0, 1) := by decide +kernel
theorem dL_refused_296 : decode cL_refused 296 = .ok (.iconst 1, 1) := by decide +kernel
theorem dL_refused_297 : decode cL_refused 297 = .ok (.iconst 1, 1) := by decide +kernel
theorem dL_refused_298 : decode cL_refused 298 = .ok (.iconst 2, 1) := by decide +kernel
theorem dL_refused_299 : decode cL_refused 299 = .ok (.invokevirtual 51, 3) := by decide +kernel
theorem dL_refused_302 : decode cL_refused 302 = .ok (.ldc 40, 2) := by decide +kernel
theorem dL_refused_304 : decode cL_refused 304 = .ok (.if_icmp .ne 160, 3) := by decide +kernel
theorem dL_refused_307 : decode cL_refused 307 = .ok (.aload_n 0, 1) := by decide +kernel
theorem dL_refused_308 : decode cL_refused 308 = .ok (.iconst 1, 1) := by decide +kernel
theorem dL_refused_309 : decode cL_refused 309 = .ok (.iconst 0, 1) := by decide +kernel
theorem dL_refused_310 : decode cL_refused 310 = .ok (.iconst 0, 1) := by decide +kernel
theorem dL_refused_311 : decode cL_refused 311 = .ok (.iconst 1, 1) := by decide +kernel
theorem dL_refused_312 : decode cL_refused 312 = .ok (.iconst 0, 1) := by decide +kernel
theorem dL_refused_313 : decode cL_refused 313 = .ok (.invokevirtual 51, 3) := by decide +kernel
theorem dL_refused_316 : decode cL_refused 316 = .ok (.ldc 40, 2) := by decide +kernel
theorem dL_refused_318 : decode cL_refused 318 = .ok (.if_icmp .ne 146, 3) := by decide +kernel
theorem dL_refused_321 : decode cL_refused 321 = .ok (.aload_n 0, 1) := by decide +kernel
theorem dL_refused_322 : decode cL_refused 322 = .ok (.bipush 100, 2) := by decide +kernel
theorem dL_refused_324 : decode cL_refused 324 = .ok (.iconst 0, 1) := by decide +kernel
theorem dL_refused_325 : decode cL_refused 325 = .ok (.iconst 0, 1) := by decide +kernel
theorem dL_refused_326 : decode cL_refused 326 = .ok (.iconst 0, 1) := by decide +kernel
theorem dL_refused_327 : decode cL_refused 327 = .ok (.invokevirtual 54, 3) := by decide +kernel
theorem dL_refused_330 : decode cL_refused 330 = .ok (.ldc 40, 2) := by decide +kernel
theorem dL_refused_332 : decode cL_refused 332 = .ok (.if_icmp .ne 132, 3) := by decide +kernel
theorem dL_refused_335 : decode cL_refused 335 = .ok (.aload_n 0, 1) := by decide +kernel
theorem dL_refused_336 : decode cL_refused 336 = .ok (.iconst 0, 1) := by decide +kernel
theorem dL_refused_337 : decode cL_refused 337 = .ok (.iconst 0, 1) := by decide +kernel
theorem dL_refused_338 : decode cL_refused 338 = .ok (.iconst (-1), 1) := by decide +kernel
theorem dL_refused_339 : decode cL_refused 339 = .ok (.iconst 0, 1) := by decide +kernel
theorem dL_refused_340 : decode cL_refused 340 = .ok (.invokevirtual 54, 3) := by decide +kernel
theorem dL_refused_343 : decode cL_refused 343 = .ok (.ldc 40, 2) := by decide +kernel
theorem dL_refused_345 : decode cL_refused 345 = .ok (.if_icmp .ne 119, 3) := by decide +kernel
theorem dL_refused_348 : decode cL_refused 348 = .ok (.aload_n 0, 1) := by decide +kernel
theorem dL_refused_349 : decode cL_refused 349 = .ok (.iconst 0, 1) := by decide +kernel
theorem dL_refused_350 : decode cL_refused 350 = .ok (.iconst 0, 1) := by decide +kernel
theorem dL_refused_351 : decode cL_refused 351 = .ok (.iconst 0, 1) := by decide +kernel
theorem dL_refused_352 : decode cL_refused 352 = .ok (.iconst 3, 1) := by decide +kernel
theorem dL_refused_353 : decode cL_refused 353 = .ok (.invokevirtual 54, 3) := by decide +kernel
theorem dL_refused_356 : decode cL_refused 356 = .ok (.ldc 40, 2) := by decide +kernel
theorem dL_refused_358 : decode cL_refused 358 = .ok (.if_icmp .ne 106, 3) := by decide +kernel
theorem dL_refused_361 : decode cL_refused 361 = .ok (.aload_n 0, 1) := by decide +kernel
theorem dL_refused_362 : decode cL_refused 362 = .ok (.iconst 0, 1) := by decide +kernel
theorem dL_refused_363 : decode cL_refused 363 = .ok (.iconst 0, 1) := by decide +kernel
theorem dL_refused_364 : decode cL_refused 364 = .ok (.aload_n 0, 1) := by decide +kernel
theorem dL_refused_365 : decode cL_refused 365 = .ok (.iconst 0, 1) := by decide +kernel
theorem dL_refused_366 : decode cL_refused 366 = .ok (.invokevirtual 13, 3) := by decide +kernel
theorem dL_refused_369 : decode cL_refused 369 = .ok (.iconst 0, 1) := by decide +kernel
theorem dL_refused_370 : decode cL_refused 370 = .ok (.invokevirtual 54, 3) := by decide +kernel
theorem dL_refused_373 : decode cL_refused 373 = .ok (.ldc 44, 2) := by decide +kernel
theorem dL_refused_375 : decode cL_refused 375 = .ok (.if_icmp .ne 89, 3) := by decide +kernel
theorem dL_refused_378 : decode cL_refused 378 = .ok (.aload_n 0, 1) := by decide +kernel
theorem dL_refused_379 : decode cL_refused 379 = .ok (.iconst 0, 1) := by decide +kernel
theorem dL_refused_380 : decode cL_refused 380 = .ok (.iconst 0, 1) := by decide +kernel
theorem dL_refused_381 : decode cL_refused 381 = .ok (.iconst 1, 1) := by decide +kernel
theorem dL_refused_382 : decode cL_refused 382 = .ok (.iconst 1, 1) := by decide +kernel
theorem dL_refused_383 : decode cL_refused 383 = .ok (.iconst 5, 1) := by decide +kernel
theorem dL_refused_384 : decode cL_refused 384 = .ok (.invokevirtual 58, 3) := by decide +kernel
theorem dL_refused_387 : decode cL_refused 387 = .ok (.ldc 40, 2) := by decide +kernel
theorem dL_refused_389 : decode cL_refused 389 = .ok (.if_icmp .ne 75, 3) := by decide +kernel
theorem dL_refused_392 : decode cL_refused 392 = .ok (.aload_n 0, 1) := by decide +kernel
theorem dL_refused_393 : decode cL_refused 393 = .ok (.iconst 3, 1) := by decide +kernel
theorem dL_refused_394 : decode cL_refused 394 = .ok (.iconst 0, 1) := by decide +kernel
theorem dL_refused_395 : decode cL_refused 395 = .ok (.iconst 1, 1) := by decide +kernel
theorem dL_refused_396 : decode cL_refused 396 = .ok (.iconst 1, 1) := by decide +kernel
theorem dL_refused_397 : decode cL_refused 397 = .ok (.iconst 0, 1) := by decide +kernel
theorem dL_refused_398 : decode cL_refused 398 = .ok (.invokevirtual 58, 3) := by decide +kernel
theorem dL_refused_401 : decode cL_refused 401 = .ok (.ldc 40, 2) := by decide +kernel
theorem dL_refused_403 : decode cL_refused 403 = .ok (.if_icmp .ne 61, 3) := by decide +kernel
theorem dL_refused_406 : decode cL_refused 406 = .ok (.aload_n 0, 1) := by decide +kernel
theorem dL_refused_407 : decode cL_refused 407 = .ok (.iconst (-1), 1) := by decide +kernel
theorem dL_refused_408 : decode cL_refused 408 = .ok (.iconst 0, 1) := by decide +kernel
theorem dL_refused_409 : decode cL_refused 409 = .ok (.invokevirtual 61, 3) := by decide +kernel
theorem dL_refused_412 : decode cL_refused 412 = .ok (.ldc 40, 2) := by decide +kernel
theorem dL_refused_414 : decode cL_refused 414 = .ok (.if_icmp .ne 50, 3) := by decide +kernel
theorem dL_refused_417 : decode cL_refused 417 = .ok (.aload_n 0, 1) := by decide +kernel
theorem dL_refused_418 : decode cL_refused 418 = .ok (.iload_n 1, 1) := by decide +kernel
theorem dL_refused_419 : decode cL_refused 419 = .ok (.iconst 4, 1) := by decide +kernel
theorem dL_refused_420 : decode cL_refused 420 = .ok (.invokevirtual 61, 3) := by decide +kernel
theorem dL_refused_423 : decode cL_refused 423 = .ok (.ldc 40, 2) := by decide +kernel
theorem dL_refused_425 : decode cL_refused 425 = .ok (.if_icmp .ne 39, 3) := by decide +kernel
theorem dL_refused_428 : decode cL_refused 428 = .ok (.aload_n 0, 1) := by decide +kernel
theorem dL_refused_429 : decode cL_refused 429 = .ok (.bipush 11, 2) := by decide +kernel
theorem dL_refused_431 : decode cL_refused 431 = .ok (.invokevirtual 13, 3) := by decide +kernel
theorem dL_refused_434 : decode cL_refused 434 = .ok (.ldc 40, 2) := by decide +kernel
theorem dL_refused_436 : decode cL_refused 436 = .ok (.if_icmp .ne 28, 3) := by decide +kernel
theorem dL_refused_439 : decode cL_refused 439 = .ok (.aload_n 0, 1) := by decide +kernel
theorem dL_refused_440 : decode cL_refused 440 = .ok (.bipush 31, 2) := by decide +kernel
theorem dL_refused_442 : decode cL_refused 442 = .ok (.invokevirtual 64, 3) := by decide +kernel
theorem dL_refused_445 : decode cL_refused 445 = .ok (.ldc 40, 2) := by decide +kernel
theorem dL_refused_447 : decode cL_refused 447 = .ok (.if_icmp .ne 17, 3) := by decide +kernel
theorem dL_refused_450 : decode cL_refused 450 = .ok (.aload_n 0, 1) := by decide +kernel
theorem dL_refused_451 : decode cL_refused 451 = .ok (.iconst 3, 1) := by decide +kernel
theorem dL_refused_452 : decode cL_refused 452 = .ok (.invokevirtual 67, 3) := by decide +kernel
theorem dL_refused_455 : decode cL_refused 455 = .ok (.ldc 40, 2) := by decide +kernel
theorem dL_refused_457 : decode cL_refused 457 = .ok (.if_icmp .ne 7, 3) := by decide +kernel
theorem dL_refused_460 : decode cL_refused 460 = .ok (.iconst 1, 1) := by decide +kernel
theorem dL_refused_461 : decode cL_refused 461 = .ok (.goto 4, 3) := by decide +kernel
theorem dL_refused_464 : decode cL_refused 464 = .ok (.iconst 0, 1) := by decide +kernel
theorem dL_refused_465 : decode cL_refused 465 = .ok (.istore 7, 2) := by decide +kernel
theorem dL_refused_467 : decode cL_refused 467 = .ok (.aload_n 0, 1) := by decide +kernel
theorem dL_refused_468 : decode cL_refused 468 = .ok (.iload_n 1, 1) := by decide +kernel
theorem dL_refused_469 : decode cL_refused 469 = .ok (.iconst 0, 1) := by decide +kernel
theorem dL_refused_470 : decode cL_refused 470 = .ok (.invokevirtual 19, 3) := by decide +kernel
theorem dL_refused_473 : decode cL_refused 473 = .ok (.ldc 44, 2) := by decide +kernel
theorem dL_refused_475 : decode cL_refused 475 = .ok (.if_icmp .ne 50, 3) := by decide +kernel
theorem dL_refused_478 : decode cL_refused 478 = .ok (.iload 7, 2) := by decide +kernel
theorem dL_refused_480 : decode cL_refused 480 = .ok (.ifCond .eq 39, 3) := by decide +kernel
theorem dL_refused_483 : decode cL_refused 483 = .ok (.aload_n 0, 1) := by decide +kernel
theorem dL_refused_484 : decode cL_refused 484 = .ok (.iload_n 1, 1) := by decide +kernel
theorem dL_refused_485 : decode cL_refused 485 = .ok (.invokevirtual 41, 3) := by decide +kernel
theorem dL_refused_488 : decode cL_refused 488 = .ok (.ldc 70, 2) := by decide +kernel
theorem dL_refused_490 : decode cL_refused 490 = .ok (.if_icmp .ne 29, 3) := by decide +kernel
theorem dL_refused_493 : decode cL_refused 493 = .ok (.aload_n 0, 1) := by decide +kernel
theorem dL_refused_494 : decode cL_refused 494 = .ok (.iload_n 1, 1) := by decide +kernel
theorem dL_refused_495 : decode cL_refused 495 = .ok (.iconst 0, 1) := by decide +kernel
theorem dL_refused_496 : decode cL_refused 496 = .ok (.invokevirtual 61, 3) := by decide +kernel
theorem dL_refused_499 : decode cL_refused 499 = .ok (.ldc 44, 2) := by decide +kernel
theorem dL_refused_501 : decode cL_refused 501 = .ok (.if_icmp .ne 18, 3) := by decide +kernel
theorem dL_refused_504 : decode cL_refused 504 = .ok (.aload_n 0, 1) := by decide +kernel
theorem dL_refused_505 : decode cL_refused 505 = .ok (.iload_n 1, 1) := by decide +kernel
theorem dL_refused_506 : decode cL_refused 506 = .ok (.iconst 0, 1) := by decide +kernel
theorem dL_refused_507 : decode cL_refused 507 = .ok (.invokevirtual 45, 3) := by decide +kernel
theorem dL_refused_510 : decode cL_refused 510 = .ok (.ldc 44, 2) := by decide +kernel
theorem dL_refused_512 : decode cL_refused 512 = .ok (.if_icmp .ne 7, 3) := by decide +kernel
theorem dL_refused_515 : decode cL_refused 515 = .ok (.iconst 1, 1) := by decide +kernel
theorem dL_refused_516 : decode cL_refused 516 = .ok (.goto 4, 3) := by decide +kernel
theorem dL_refused_519 : decode cL_refused 519 = .ok (.iconst 0, 1) := by decide +kernel
theorem dL_refused_520 : decode cL_refused 520 = .ok (.istore 7, 2) := by decide +kernel
theorem dL_refused_522 : decode cL_refused 522 = .ok (.goto 29, 3) := by decide +kernel
theorem dL_refused_525 : decode cL_refused 525 = .ok (.iload 7, 2) := by decide +kernel
theorem dL_refused_527 : decode cL_refused 527 = .ok (.ifCond .eq 21, 3) := by decide +kernel
theorem dL_refused_530 : decode cL_refused 530 = .ok (.aload_n 0, 1) := by decide +kernel
theorem dL_refused_531 : decode cL_refused 531 = .ok (.iload_n 1, 1) := by decide +kernel
theorem dL_refused_532 : decode cL_refused 532 = .ok (.iconst 0, 1) := by decide +kernel
theorem dL_refused_533 : decode cL_refused 533 = .ok (.iconst 0, 1) := by decide +kernel
theorem dL_refused_534 : decode cL_refused 534 = .ok (.iconst 1, 1) := by decide +kernel
theorem dL_refused_535 : decode cL_refused 535 = .ok (.iconst 1, 1) := by decide +kernel
theorem dL_refused_536 : decode cL_refused 536 = .ok (.invokevirtual 36, 3) := by decide +kernel
theorem dL_refused_539 : decode cL_refused 539 = .ok (.ldc 70, 2) := by decide +kernel
theorem dL_refused_541 : decode cL_refused 541 = .ok (.if_icmp .ne 7, 3) := by decide +kernel
theorem dL_refused_544 : decode cL_refused 544 = .ok (.iconst 1, 1) := by decide +kernel
theorem dL_refused_545 : decode cL_refused 545 = .ok (.goto 4, 3) := by decide +kernel
theorem dL_refused_548 : decode cL_refused 548 = .ok (.iconst 0, 1) := by decide +kernel
theorem dL_refused_549 : decode cL_refused 549 = .ok (.istore 7, 2) := by decide +kernel
theorem dL_refused_551 : decode cL_refused 551 = .ok (.iload 7, 2) := by decide +kernel
theorem dL_refused_553 : decode cL_refused 553 = .ok (.ifCond .eq 37, 3) := by decide +kernel
theorem dL_refused_556 : decode cL_refused 556 = .ok (.aload_n 0, 1) := by decide +kernel
theorem dL_refused_557 : decode cL_refused 557 = .ok (.bipush 8, 2) := by decide +kernel
theorem dL_refused_559 : decode cL_refused 559 = .ok (.invokevirtual 13, 3) := by decide +kernel
theorem dL_refused_562 : decode cL_refused 562 = .ok (.iload 4, 2) := by decide +kernel
theorem dL_refused_564 : decode cL_refused 564 = .ok (.if_icmp .ne 26, 3) := by decide +kernel
theorem dL_refused_567 : decode cL_refused 567 = .ok (.aload_n 0, 1) := by decide +kernel
theorem dL_refused_568 : decode cL_refused 568 = .ok (.iconst 4, 1) := by decide +kernel
theorem dL_refused_569 : decode cL_refused 569 = .ok (.invokevirtual 13, 3) := by decide +kernel
theorem dL_refused_572 : decode cL_refused 572 = .ok (.iload 5, 2) := by decide +kernel
theorem dL_refused_574 : decode cL_refused 574 = .ok (.if_icmp .ne 16, 3) := by decide +kernel
theorem dL_refused_577 : decode cL_refused 577 = .ok (.aload_n 0, 1) := by decide +kernel
theorem dL_refused_578 : decode cL_refused 578 = .ok (.invokestatic 30, 3) := by decide +kernel
theorem dL_refused_581 : decode cL_refused 581 = .ok (.lload_n 2, 1) := by decide +kernel
theorem dL_refused_582 : decode cL_refused 582 = .ok (.lcmp, 1) := by decide +kernel
theorem dL_refused_583 : decode cL_refused 583 = .ok (.ifCond .ne 7, 3) := by decide +kernel
theorem dL_refused_586 : decode cL_refused 586 = .ok (.iconst 1, 1) := by decide +kernel
theorem dL_refused_587 : decode cL_refused 587 = .ok (.goto 4, 3) := by decide +kernel
theorem dL_refused_590 : decode cL_refused 590 = .ok (.iconst 0, 1) := by decide +kernel
theorem dL_refused_591 : decode cL_refused 591 = .ok (.ireturn, 1) := by decide +kernel
theorem dL_isTree_0 : decode cL_isTree 0 = .ok (.aload_n 0, 1) := by decide +kernel
theorem dL_isTree_1 : decode cL_isTree 1 = .ok (.iconst 1, 1) := by decide +kernel
theorem dL_isTree_2 : decode cL_isTree 2 = .ok (.invokevirtual 13, 3) := by decide +kernel
theorem dL_isTree_5 : decode cL_isTree 5 = .ok (.istore_n 1, 1) := by decide +kernel
theorem dL_isTree_6 : decode cL_isTree 6 = .ok (.iconst 0, 1) := by decide +kernel
theorem dL_isTree_7 : decode cL_isTree 7 = .ok (.istore_n 2, 1) := by decide +kernel
theorem dL_isTree_8 : decode cL_isTree 8 = .ok (.iconst 0, 1) := by decide +kernel
theorem dL_isTree_9 : decode cL_isTree 9 = .ok (.istore_n 3, 1) := by decide +kernel
theorem dL_isTree_10 : decode cL_isTree 10 = .ok (.iconst 0, 1) := by decide +kernel
theorem dL_isTree_11 : decode cL_isTree 11 = .ok (.istore 4, 2) := by decide +kernel
theorem dL_isTree_13 : decode cL_isTree 13 = .ok (.iconst 1, 1) := by decide +kernel
theorem dL_isTree_14 : decode cL_isTree 14 = .ok (.istore 5, 2) := by decide +kernel
theorem dL_isTree_16 : decode cL_isTree 16 = .ok (.iconst 0, 1) := by decide +kernel
theorem dL_isTree_17 : decode cL_isTree 17 = .ok (.istore 6, 2) := by decide +kernel
theorem dL_isTree_19 : decode cL_isTree 19 = .ok (.iload 6, 2) := by decide +kernel
theorem dL_isTree_21 : decode cL_isTree 21 = .ok (.iload_n 1, 1) := by decide +kernel
theorem dL_isTree_22 : decode cL_isTree 22 = .ok (.if_icmp .ge 608, 3) := by decide +kernel
theorem dL_isTree_25 : decode cL_isTree 25 = .ok (.iload 5, 2) := by decide +kernel
theorem dL_isTree_27 : decode cL_isTree 27 = .ok (.ifCond .eq 603, 3) := by decide +kernel
theorem dL_isTree_30 : decode cL_isTree 30 = .ok (.iconst 0, 1) := by decide +kernel
theorem dL_isTree_31 : decode cL_isTree 31 = .ok (.istore 7, 2) := by decide +kernel
theorem dL_isTree_33 : decode cL_isTree 33 = .ok (.iconst 0, 1) := by decide +kernel
theorem dL_isTree_34 : decode cL_isTree 34 = .ok (.istore 8, 2) := by decide +kernel
theorem dL_isTree_36 : decode cL_isTree 36 = .ok (.iload 5, 2) := by decide +kernel
theorem dL_isTree_38 : decode cL_isTree 38 = .ok (.ifCond .eq 508, 3) := by decide +kernel
theorem dL_isTree_41 : decode cL_isTree 41 = .ok (.aload_n 0, 1) := by decide +kernel
theorem dL_isTree_42 : decode cL_isTree 42 = .ok (.iload 6, 2) := by decide +kernel
theorem dL_isTree_44 : decode cL_isTree 44 = .ok (.iload 8, 2) := by decide +kernel
theorem dL_isTree_46 : decode cL_isTree 46 = .ok (.iconst 4, 1) := by decide +kernel
theorem dL_isTree_47 : decode cL_isTree 47 = .ok (.invokevirtual 23, 3) := by decide +kernel
theorem dL_isTree_50 : decode cL_isTree 50 = .ok (.ifCond .lt 496, 3) := by decide +kernel
theorem dL_isTree_53 : decode cL_isTree 53 = .ok (.aload_n 0, 1) := by decide +kernel
theorem dL_isTree_54 : decode cL_isTree 54 = .ok (.iload 6, 2) := by decide +kernel
theorem dL_isTree_56 : decode cL_isTree 56 = .ok (.iload 8, 2) := by decide +kernel
theorem dL_isTree_58 : decode cL_isTree 58 = .ok (.iconst 4, 1) := by decide +kernel
theorem dL_isTree_59 : decode cL_isTree 59 = .ok (.invokevirtual 23, 3) := by decide +kernel
theorem dL_isTree_62 : decode cL_isTree 62 = .ok (.istore 9, 2) := by decide +kernel
theorem dL_isTree_64 : decode cL_isTree 64 = .ok (.aload_n 0, 1) := by decide +kernel
theorem dL_isTree_65 : decode cL_isTree 65 = .ok (.iload 6, 2) := by decide +kernel
theorem dL_isTree_67 : decode cL_isTree 67 = .ok (.iload 8, 2) := by decide +kernel
theorem dL_isTree_69 : decode cL_isTree 69 = .ok (.iconst 5, 1) := by decide +kernel
theorem dL_isTree_70 : decode cL_isTree 70 = .ok (.invokevirtual 23, 3) := by decide +kernel
theorem dL_isTree_73 : decode cL_isTree 73 = .ok (.istore 10, 2) := by decide +kernel
theorem dL_isTree_75 : decode cL_isTree 75 = .ok (.bipush 100, 2) := by decide +kernel
theorem dL_isTree_77 : decode cL_isTree 77 = .ok (.istore 11, 2) := by decide +kernel
theorem dL_isTree_79 : decode cL_isTree 79 = .ok (.bipush 100, 2) := by decide +kernel
theorem dL_isTree_81 : decode cL_isTree 81 = .ok (.istore 12, 2) := by decide +kernel
theorem dL_isTree_83 : decode cL_isTree 83 = .ok (.iconst (-1), 1) := by decide +kernel
theorem dL_isTree_84 : decode cL_isTree 84 = .ok (.istore 13, 2) := by decide +kernel
theorem dL_isTree_86 : decode cL_isTree 86 = .ok (.iconst (-1), 1) := by decide +kernel
theorem dL_isTree_87 : decode cL_isTree 87 = .ok (.istore 14, 2) := by decide +kernel
theorem dL_isTree_89 : decode cL_isTree 89 = .ok (.iconst 0, 1) := by decide +kernel
theorem dL_isTree_90 : decode cL_isTree 90 = .ok (.istore 15, 2) := by decide +kernel
theorem dL_isTree_92 : decode cL_isTree 92 = .ok (.iconst 0, 1) := by decide +kernel
theorem dL_isTree_93 : decode cL_isTree 93 = .ok (.istore 16, 2) := by decide +kernel
theorem dL_isTree_95 : decode cL_isTree 95 = .ok (.iload 16, 2) := by decide +kernel
theorem dL_isTree_97 : decode cL_isTree 97 = .ok (.iload 6, 2) := by decide +kernel
theorem dL_isTree_99 : decode cL_isTree 99 = .ok (.ifCond .ne 8, 3) := by decide +kernel
theorem dL_isTree_102 : decode cL_isTree 102 = .ok (.bipush 31, 2) := by decide +kernel
theorem dL_isTree_104 : decode cL_isTree 104 = .ok (.goto 5, 3) := by decide +kernel
theorem dL_isTree_107 : decode cL_isTree 107 = .ok (.iload 9, 2) := by decide +kernel
theorem dL_isTree_109 : decode cL_isTree 109 = .ok (.if_icmp .ge 251, 3) := by decide +kernel
theorem dL_isTree_112 : decode cL_isTree 112 = .ok (.iload 6, 2) := by decide +kernel
theorem dL_isTree_114 : decode cL_isTree 114 = .ok (.ifCond .gt 14, 3) := by decide +kernel
theorem dL_isTree_117 : decode cL_isTree 117 = .ok (.iload 10, 2) := by decide +kernel
theorem dL_isTree_119 : decode cL_isTree 119 = .ok (.iload 16, 2) := by decide +kernel
theorem dL_isTree_121 : decode cL_isTree 121 = .ok (.ishr, 1) := by decide +kernel
theorem dL_isTree_122 : decode cL_isTree 122 = .ok (.iconst 1, 1) := by decide +kernel
theorem dL_isTree_123 : decode cL_isTree 123 = .ok (.iand, 1) := by decide +kernel
theorem dL_isTree_124 : decode cL_isTree 124 = .ok (.iconst 1, 1) := by decide +kernel
theorem dL_isTree_125 : decode cL_isTree 125 = .ok (.if_icmp .ne 7, 3) := by decide +kernel
theorem dL_isTree_128 : decode cL_isTree 128 = .ok (.iconst 1, 1) := by decide +kernel
theorem dL_isTree_129 : decode cL_isTree 129 = .ok (.goto 4, 3) := by decide +kernel
theorem dL_isTree_132 : decode cL_isTree 132 = .ok (.iconst 0, 1) := by decide +kernel
theorem dL_isTree_133 : decode cL_isTree 133 = .ok (.istore 17, 2) := by decide +kernel
theorem dL_isTree_135 : decode cL_isTree 135 = .ok (.iload 15, 2) := by decide +kernel
theorem dL_isTree_137 : decode cL_isTree 137 = .ok (.iload 17, 2) := by decide +kernel
theorem dL_isTree_139 : decode cL_isTree 139 = .ok (.ifCond .eq 7, 3) := by decide +kernel
theorem dL_isTree_142 : decode cL_isTree 142 = .ok (.iconst 1, 1) := by decide +kernel
theorem dL_isTree_143 : decode cL_isTree 143 = .ok (.goto 4, 3) := by decide +kernel
theorem dL_isTree_146 : decode cL_isTree 146 = .ok (.iconst 0, 1) := by decide +kernel
theorem dL_isTree_147 : decode cL_isTree 147 = .ok (.iadd, 1) := by decide +kernel
theorem dL_isTree_148 : decode cL_isTree 148 = .ok (.istore 15, 2) := by decide +kernel
theorem dL_isTree_150 : decode cL_isTree 150 = .ok (.iload 17, 2) := by decide +kernel
theorem dL_isTree_152 : decode cL_isTree 152 = .ok (.ifCond .eq 113, 3) := by decide +kernel
theorem dL_isTree_155 : decode cL_isTree 155 = .ok (.iload 6, 2) := by decide +kernel
theorem dL_isTree_157 : decode cL_isTree 157 = .ok (.ifCond .ne 108, 3) := by decide +kernel
theorem dL_isTree_160 : decode cL_isTree 160 = .ok (.iload 11, 2) := by decide +kernel
theorem dL_isTree_162 : decode cL_isTree 162 = .ok (.aload_n 0, 1) := by decide +kernel
theorem dL_isTree_163 : decode cL_isTree 163 = .ok (.iload 16, 2) := by decide +kernel
theorem dL_isTree_165 : decode cL_isTree 165 = .ok (.iconst 0, 1) := by decide +kernel
theorem dL_isTree_166 : decode cL_isTree 166 = .ok (.invokevirtual 19, 3) := by decide +kernel
theorem dL_isTree_169 : decode cL_isTree 169 = .ok (.invokestatic 71, 3) := by decide +kernel
theorem dL_isTree_172 : decode cL_isTree 172 = .ok (.istore 11, 2) := by decide +kernel
theorem dL_isTree_174 : decode cL_isTree 174 = .ok (.iload 12, 2) := by decide +kernel
theorem dL_isTree_176 : decode cL_isTree 176 = .ok (.aload_n 0, 1) := by decide +kernel
theorem dL_isTree_177 : decode cL_isTree 177 = .ok (.iload 16, 2) := by decide +kernel
theorem dL_isTree_179 : decode cL_isTree 179 = .ok (.iconst 1, 1) := by decide +kernel
theorem dL_isTree_180 : decode cL_isTree 180 = .ok (.invokevirtual 19, 3) := by decide +kernel
theorem dL_isTree_183 : decode cL_isTree 183 = .ok (.invokestatic 71, 3) := by decide +kernel
theorem dL_isTree_186 : decode cL_isTree 186 = .ok (.istore 12, 2) := by decide +kernel
theorem dL_isTree_188 : decode cL_isTree 188 = .ok (.iload 13, 2) := by decide +kernel
theorem dL_isTree_190 : decode cL_isTree 190 = .ok (.aload_n 0, 1) := by decide +kernel
theorem dL_isTree_191 : decode cL_isTree 191 = .ok (.iload 16, 2) := by decide +kernel
theorem dL_isTree_193 : decode cL_isTree 193 = .ok (.iconst 2, 1) := by decide +kernel
theorem dL_isTree_194 : decode cL_isTree 194 = .ok (.invokevirtual 19, 3) := by decide +kernel
theorem dL_isTree_197 : decode cL_isTree 197 = .ok (.invokestatic 74, 3) := by decide +kernel
theorem dL_isTree_200 : decode cL_isTree 200 = .ok (.istore 13, 2) := by decide +kernel
theorem dL_isTree_202 : decode cL_isTree 202 = .ok (.iload 14, 2) := by decide +kernel
theorem dL_isTree_204 : decode cL_isTree 204 = .ok (.aload_n 0, 1) := by decide +kernel
theorem dL_isTree_205 : decode cL_isTree 205 = .ok (.iload 16, 2) := by decide +kernel
theorem dL_isTree_207 : decode cL_isTree 207 = .ok (.iconst 3, 1) := by decide +kernel
theorem dL_isTree_208 : decode cL_isTree 208 = .ok (.invokevirtual 19, 3) := by decide +kernel
theorem dL_isTree_211 : decode cL_isTree 211 = .ok (.invokestatic 74, 3) := by decide +kernel
theorem dL_isTree_214 : decode cL_isTree 214 = .ok (.istore 14, 2) := by decide +kernel
theorem dL_isTree_216 : decode cL_isTree 216 = .ok (.iload 5, 2) := by decide +kernel
theorem dL_isTree_218 : decode cL_isTree 218 = .ok (.ifCond .eq 41, 3) := by decide +kernel
theorem dL_isTree_221 : decode cL_isTree 221 = .ok (.aload_n 0, 1) := by decide +kernel
theorem dL_isTree_222 : decode cL_isTree 222 = .ok (.iload 16, 2) := by decide +kernel
theorem dL_isTree_224 : decode cL_isTree 224 = .ok (.iconst 4, 1) := by decide +kernel
theorem dL_isTree_225 : decode cL_isTree 225 = .ok (.invokevirtual 19, 3) := by decide +kernel
theorem dL_isTree_228 : decode cL_isTree 228 = .ok (.iload 8, 2) := by decide +kernel
theorem dL_isTree_230 : decode cL_isTree 230 = .ok (.if_icmp .ne 29, 3) := by decide +kernel
theorem dL_isTree_233 : decode cL_isTree 233 = .ok (.aload_n 0, 1) := by decide +kernel
theorem dL_isTree_234 : decode cL_isTree 234 = .ok (.iload 16, 2) := by decide +kernel
theorem dL_isTree_236 : decode cL_isTree 236 = .ok (.iconst 5, 1) := by decide +kernel
theorem dL_isTree_237 : decode cL_isTree 237 = .ok (.invokevirtual 19, 3) := by decide +kernel
theorem dL_isTree_240 : decode cL_isTree 240 = .ok (.ifCond .lt 19, 3) := by decide +kernel
theorem dL_isTree_243 : decode cL_isTree 243 = .ok (.aload_n 0, 1) := by decide +kernel
theorem dL_isTree_244 : decode cL_isTree 244 = .ok (.iload 16, 2) := by decide +kernel
theorem dL_isTree_246 : decode cL_isTree 246 = .ok (.iconst 5, 1) := by decide +kernel
theorem dL_isTree_247 : decode cL_isTree 247 = .ok (.invokevirtual 19, 3) := by decide +kernel
theorem dL_isTree_250 : decode cL_isTree 250 = .ok (.iload 9, 2) := by decide +kernel
theorem dL_isTree_252 : decode cL_isTree 252 = .ok (.if_icmp .ge 7, 3) := by decide +kernel
theorem dL_isTree_255 : decode cL_isTree 255 = .ok (.iconst 1, 1) := by decide +kernel
theorem dL_isTree_256 : decode cL_isTree 256 = .ok (.goto 4, 3) := by decide +kernel
theorem dL_isTree_259 : decode cL_isTree 259 = .ok (.iconst 0, 1) := by decide +kernel
theorem dL_isTree_260 : decode cL_isTree 260 = .ok (.istore 5, 2) := by decide +kernel
theorem dL_isTree_262 : decode cL_isTree 262 = .ok (.goto 92, 3) := by decide +kernel
theorem dL_isTree_265 : decode cL_isTree 265 = .ok (.iload 17, 2) := by decide +kernel
theorem dL_isTree_267 : decode cL_isTree 267 = .ok (.ifCond .eq 87, 3) := by decide +kernel
theorem dL_isTree_270 : decode cL_isTree 270 = .ok (.iload 11, 2) := by decide +kernel
theorem dL_isTree_272 : decode cL_isTree 272 = .ok (.aload_n 0, 1) := by decide +kernel
theorem dL_isTree_273 : decode cL_isTree 273 = .ok (.iload 6, 2) := by decide +kernel
theorem dL_isTree_275 : decode cL_isTree 275 = .ok (.iconst 1, 1) := by decide +kernel
theorem dL_isTree_276 : decode cL_isTree 276 = .ok (.isub, 1) := by decide +kernel
theorem dL_isTree_277 : decode cL_isTree 277 = .ok (.iload 10, 2) := by decide +kernel
theorem dL_isTree_279 : decode cL_isTree 279 = .ok (.iload 16, 2) := by decide +kernel
theorem dL_isTree_281 : decode cL_isTree 281 = .ok (.iadd, 1) := by decide +kernel
theorem dL_isTree_282 : decode cL_isTree 282 = .ok (.iconst 0, 1) := by decide +kernel
theorem dL_isTree_283 : decode cL_isTree 283 = .ok (.invokevirtual 23, 3) := by decide +kernel
theorem dL_isTree_286 : decode cL_isTree 286 = .ok (.invokestatic 71, 3) := by decide +kernel
theorem dL_isTree_289 : decode cL_isTree 289 = .ok (.istore 11, 2) := by decide +kernel
theorem dL_isTree_291 : decode cL_isTree 291 = .ok (.iload 12, 2) := by decide +kernel
theorem dL_isTree_293 : decode cL_isTree 293 = .ok (.aload_n 0, 1) := by decide +kernel
theorem dL_isTree_294 : decode cL_isTree 294 = .ok (.iload 6, 2) := by decide +kernel
theorem dL_isTree_296 : decode cL_isTree 296 = .ok (.iconst 1, 1) := by decide +kernel
theorem dL_isTree_297 : decode cL_isTree 297 = .ok (.isub, 1) := by decide +kernel
theorem dL_isTree_298 : decode cL_isTree 298 = .ok (.iload 10, 2) := by decide +kernel
theorem dL_isTree_300 : decode cL_isTree 300 = .ok (.iload 16, 2) := by decide +kernel
theorem dL_isTree_302 : decode cL_isTree 302 = .ok (.iadd, 1) := by decide +kernel
theorem dL_isTree_303 : decode cL_isTree 303 = .ok (.iconst 1, 1) := by decide +kernel
theorem dL_isTree_304 : decode cL_isTree 304 = .ok (.invokevirtual 23, 3) := by decide +kernel
theorem dL_isTree_307 : decode cL_isTree 307 = .ok (.invokestatic 71, 3) := by decide +kernel
theorem dL_isTree_310 : decode cL_isTree 310 = .ok (.istore 12, 2) := by decide +kernel
theorem dL_isTree_312 : decode cL_isTree 312 = .ok (.iload 13, 2) := by decide +kernel
theorem dL_isTree_314 : decode cL_isTree 314 = .ok (.aload_n 0, 1) := by decide +kernel
theorem dL_isTree_315 : decode cL_isTree 315 = .ok (.iload 6, 2) := by decide +kernel
theorem dL_isTree_317 : decode cL_isTree 317 = .ok (.iconst 1, 1) := by decide +kernel
theorem dL_isTree_318 : decode cL_isTree 318 = .ok (.isub, 1) := by decide +kernel
theorem dL_isTree_319 : decode cL_isTree 319 = .ok (.iload 10, 2) := by decide +kernel
theorem dL_isTree_321 : decode cL_isTree 321 = .ok (.iload 16, 2) := by decide +kernel
theorem dL_isTree_323 : decode cL_isTree 323 = .ok (.iadd, 1) := by decide +kernel
theorem dL_isTree_324 : decode cL_isTree 324 = .ok (.iconst 2, 1) := by decide +kernel
theorem dL_isTree_325 : decode cL_isTree 325 = .ok (.invokevirtual 23, 3) := by decide +kernel
theorem dL_isTree_328 : decode cL_isTree 328 = .ok (.invokestatic 74, 3) := by decide +kernel
theorem dL_isTree_331 : decode cL_isTree 331 = .ok (.istore 13, 2) := by decide +kernel
theorem dL_isTree_333 : decode cL_isTree 333 = .ok (.iload 14, 2) := by decide +kernel
theorem dL_isTree_335 : decode cL_isTree 335 = .ok (.aload_n 0, 1) := by decide +kernel
theorem dL_isTree_336 : decode cL_isTree 336 = .ok (.iload 6, 2) := by decide +kernel
theorem dL_isTree_338 : decode cL_isTree 338 = .ok (.iconst 1, 1) := by decide +kernel
theorem dL_isTree_339 : decode cL_isTree 339 = .ok (.isub, 1) := by decide +kernel
theorem dL_isTree_340 : decode cL_isTree 340 = .ok (.iload 10, 2) := by decide +kernel
theorem dL_isTree_342 : decode cL_isTree 342 = .ok (.iload 16, 2) := by decide +kernel
theorem dL_isTree_344 : decode cL_isTree 344 = .ok (.iadd, 1) := by decide +kernel
theorem dL_isTree_345 : decode cL_isTree 345 = .ok (.iconst 3, 1) := by decide +kernel
theorem dL_isTree_346 : decode cL_isTree 346 = .ok (.invokevirtual 23, 3) := by decide +kernel
theorem dL_isTree_349 : decode cL_isTree 349 = .ok (.invokestatic 74, 3) := by decide +kernel
theorem dL_isTree_352 : decode cL_isTree 352 = .ok (.istore 14, 2) := by decide +kernel
theorem dL_isTree_354 : decode cL_isTree 354 = .ok (.iinc 16 1, 3) := by decide +kernel
theorem dL_isTree_357 : decode cL_isTree 357 = .ok (.goto (-262), 3) := by decide +kernel
theorem dL_isTree_360 : decode cL_isTree 360 = .ok (.iload 5, 2) := by decide +kernel
theorem dL_isTree_362 : decode cL_isTree 362 = .ok (.ifCond .eq 121, 3) := by decide +kernel
theorem dL_isTree_365 : decode cL_isTree 365 = .ok (.iload 15, 2) := by decide +kernel
theorem dL_isTree_367 : decode cL_isTree 367 = .ok (.iload 9, 2) := by decide +kernel
theorem dL_isTree_369 : decode cL_isTree 369 = .ok (.if_icmp .ne 114, 3) := by decide +kernel
theorem dL_isTree_372 : decode cL_isTree 372 = .ok (.iload 6, 2) := by decide +kernel
theorem dL_isTree_374 : decode cL_isTree 374 = .ok (.ifCond .eq 10, 3) := by decide +kernel
theorem dL_isTree_377 : decode cL_isTree 377 = .ok (.iload 10, 2) := by decide +kernel
theorem dL_isTree_379 : decode cL_isTree 379 = .ok (.iload 7, 2) := by decide +kernel
theorem dL_isTree_381 : decode cL_isTree 381 = .ok (.if_icmp .ne 102, 3) := by decide +kernel
theorem dL_isTree_384 : decode cL_isTree 384 = .ok (.iload 9, 2) := by decide +kernel
theorem dL_isTree_386 : decode cL_isTree 386 = .ok (.iconst 4, 1) := by decide +kernel
theorem dL_isTree_387 : decode cL_isTree 387 = .ok (.if_icmp .gt 96, 3) := by decide +kernel
theorem dL_isTree_390 : decode cL_isTree 390 = .ok (.iload 9, 2) := by decide +kernel
theorem dL_isTree_392 : decode cL_isTree 392 = .ok (.iconst 2, 1) := by decide +kernel
theorem dL_isTree_393 : decode cL_isTree 393 = .ok (.if_icmp .ge 8, 3) := by decide +kernel
theorem dL_isTree_396 : decode cL_isTree 396 = .ok (.iload_n 1, 1) := by decide +kernel
theorem dL_isTree_397 : decode cL_isTree 397 = .ok (.iconst 1, 1) := by decide +kernel
theorem dL_isTree_398 : decode cL_isTree 398 = .ok (.if_icmp .ne 85, 3) := by decide +kernel
theorem dL_isTree_401 : decode cL_isTree 401 = .ok (.iload 9, 2) := by decide +kernel
theorem dL_isTree_403 : decode cL_isTree 403 = .ok (.ifCond .ne 20, 3) := by decide +kernel
theorem dL_isTree_406 : decode cL_isTree 406 = .ok (.aload_n 0, 1) := by decide +kernel
theorem dL_isTree_407 : decode cL_isTree 407 = .ok (.iload 6, 2) := by decide +kernel
theorem dL_isTree_409 : decode cL_isTree 409 = .ok (.iload 8, 2) := by decide +kernel
theorem dL_isTree_411 : decode cL_isTree 411 = .ok (.iconst 0, 1) := by decide +kernel
theorem dL_isTree_412 : decode cL_isTree 412 = .ok (.invokevirtual 23, 3) := by decide +kernel
theorem dL_isTree_415 : decode cL_isTree 415 = .ok (.ldc 44, 2) := by decide +kernel
theorem dL_isTree_417 : decode cL_isTree 417 = .ok (.if_icmp .ne 66, 3) := by decide +kernel
theorem dL_isTree_420 : decode cL_isTree 420 = .ok (.goto 59, 3) := by decide +kernel
theorem dL_isTree_423 : decode cL_isTree 423 = .ok (.aload_n 0, 1) := by decide +kernel
theorem dL_isTree_424 : decode cL_isTree 424 = .ok (.iload 6, 2) := by decide +kernel
theorem dL_isTree_426 : decode cL_isTree 426 = .ok (.iload 8, 2) := by decide +kernel
theorem dL_isTree_428 : decode cL_isTree 428 = .ok (.iconst 0, 1) := by decide +kernel
theorem dL_isTree_429 : decode cL_isTree 429 = .ok (.invokevirtual 23, 3) := by decide +kernel
theorem dL_isTree_432 : decode cL_isTree 432 = .ok (.iload 11, 2) := by decide +kernel
theorem dL_isTree_434 : decode cL_isTree 434 = .ok (.if_icmp .ne 49, 3) := by decide +kernel
theorem dL_isTree_437 : decode cL_isTree 437 = .ok (.aload_n 0, 1) := by decide +kernel
theorem dL_isTree_438 : decode cL_isTree 438 = .ok (.iload 6, 2) := by decide +kernel
theorem dL_isTree_440 : decode cL_isTree 440 = .ok (.iload 8, 2) := by decide +kernel
theorem dL_isTree_442 : decode cL_isTree 442 = .ok (.iconst 1, 1) := by decide +kernel
theorem dL_isTree_443 : decode cL_isTree 443 = .ok (.invokevirtual 23, 3) := by decide +kernel
theorem dL_isTree_446 : decode cL_isTree 446 = .ok (.iload 12, 2) := by decide +kernel
theorem dL_isTree_448 : decode cL_isTree 448 = .ok (.if_icmp .ne 35, 3) := by decide +kernel
theorem dL_isTree_451 : decode cL_isTree 451 = .ok (.aload_n 0, 1) := by decide +kernel
theorem dL_isTree_452 : decode cL_isTree 452 = .ok (.iload 6, 2) := by decide +kernel
theorem dL_isTree_454 : decode cL_isTree 454 = .ok (.iload 8, 2) := by decide +kernel
theorem dL_isTree_456 : decode cL_isTree 456 = .ok (.iconst 2, 1) := by decide +kernel
theorem dL_isTree_457 : decode cL_isTree 457 = .ok (.invokevirtual 23, 3) := by decide +kernel
theorem dL_isTree_460 : decode cL_isTree 460 = .ok (.iload 13, 2) := by decide +kernel
theorem dL_isTree_462 : decode cL_isTree 462 = .ok (.if_icmp .ne 21, 3) := by decide +kernel
theorem dL_isTree_465 : decode cL_isTree 465 = .ok (.aload_n 0, 1) := by decide +kernel
theorem dL_isTree_466 : decode cL_isTree 466 = .ok (.iload 6, 2) := by decide +kernel
theorem dL_isTree_468 : decode cL_isTree 468 = .ok (.iload 8, 2) := by decide +kernel
theorem dL_isTree_470 : decode cL_isTree 470 = .ok (.iconst 3, 1) := by decide +kernel
theorem dL_isTree_471 : decode cL_isTree 471 = .ok (.invokevirtual 23, 3) := by decide +kernel
theorem dL_isTree_474 : decode cL_isTree 474 = .ok (.iload 14, 2) := by decide +kernel
theorem dL_isTree_476 : decode cL_isTree 476 = .ok (.if_icmp .ne 7, 3) := by decide +kernel
theorem dL_isTree_479 : decode cL_isTree 479 = .ok (.iconst 1, 1) := by decide +kernel
theorem dL_isTree_480 : decode cL_isTree 480 = .ok (.goto 4, 3) := by decide +kernel
theorem dL_isTree_483 : decode cL_isTree 483 = .ok (.iconst 0, 1) := by decide +kernel
theorem dL_isTree_484 : decode cL_isTree 484 = .ok (.istore 5, 2) := by decide +kernel
theorem dL_isTree_486 : decode cL_isTree 486 = .ok (.iload_n 3, 1) := by decide +kernel
theorem dL_isTree_487 : decode cL_isTree 487 = .ok (.iload 6, 2) := by decide +kernel
theorem dL_isTree_489 : decode cL_isTree 489 = .ok (.ifCond .ne 22, 3) := by decide +kernel
theorem dL_isTree_492 : decode cL_isTree 492 = .ok (.iload 9, 2) := by decide +kernel
theorem dL_isTree_494 : decode cL_isTree 494 = .ok (.ifCond .le 17, 3) := by decide +kernel
theorem dL_isTree_497 : decode cL_isTree 497 = .ok (.iload 13, 2) := by decide +kernel
theorem dL_isTree_499 : decode cL_isTree 499 = .ok (.iload 11, 2) := by decide +kernel
theorem dL_isTree_501 : decode cL_isTree 501 = .ok (.isub, 1) := by decide +kernel
theorem dL_isTree_502 : decode cL_isTree 502 = .ok (.iload 14, 2) := by decide +kernel
theorem dL_isTree_504 : decode cL_isTree 504 = .ok (.iload 12, 2) := by decide +kernel
theorem dL_isTree_506 : decode cL_isTree 506 = .ok (.isub, 1) := by decide +kernel
theorem dL_isTree_507 : decode cL_isTree 507 = .ok (.imul, 1) := by decide +kernel
theorem dL_isTree_508 : decode cL_isTree 508 = .ok (.goto 4, 3) := by decide +kernel
theorem dL_isTree_511 : decode cL_isTree 511 = .ok (.iconst 0, 1) := by decide +kernel
theorem dL_isTree_512 : decode cL_isTree 512 = .ok (.iadd, 1) := by decide +kernel
theorem dL_isTree_513 : decode cL_isTree 513 = .ok (.istore_n 3, 1) := by decide +kernel
theorem dL_isTree_514 : decode cL_isTree 514 = .ok (.iload 4, 2) := by decide +kernel
theorem dL_isTree_516 : decode cL_isTree 516 = .ok (.iload 6, 2) := by decide +kernel
theorem dL_isTree_518 : decode cL_isTree 518 = .ok (.ifCond .ne 8, 3) := by decide +kernel
theorem dL_isTree_521 : decode cL_isTree 521 = .ok (.iload 9, 2) := by decide +kernel
theorem dL_isTree_523 : decode cL_isTree 523 = .ok (.goto 4, 3) := by decide +kernel
theorem dL_isTree_526 : decode cL_isTree 526 = .ok (.iconst 0, 1) := by decide +kernel
theorem dL_isTree_527 : decode cL_isTree 527 = .ok (.iadd, 1) := by decide +kernel
theorem dL_isTree_528 : decode cL_isTree 528 = .ok (.istore 4, 2) := by decide +kernel
theorem dL_isTree_530 : decode cL_isTree 530 = .ok (.iload 7, 2) := by decide +kernel
theorem dL_isTree_532 : decode cL_isTree 532 = .ok (.iload 9, 2) := by decide +kernel
theorem dL_isTree_534 : decode cL_isTree 534 = .ok (.iadd, 1) := by decide +kernel
theorem dL_isTree_535 : decode cL_isTree 535 = .ok (.istore 7, 2) := by decide +kernel
theorem dL_isTree_537 : decode cL_isTree 537 = .ok (.iinc 2 1, 3) := by decide +kernel
theorem dL_isTree_540 : decode cL_isTree 540 = .ok (.iinc 8 1, 3) := by decide +kernel
theorem dL_isTree_543 : decode cL_isTree 543 = .ok (.goto (-507), 3) := by decide +kernel
theorem dL_isTree_546 : decode cL_isTree 546 = .ok (.iload 5, 2) := by decide +kernel
theorem dL_isTree_548 : decode cL_isTree 548 = .ok (.ifCond .eq 73, 3) := by decide +kernel
theorem dL_isTree_551 : decode cL_isTree 551 = .ok (.iload 6, 2) := by decide +kernel
theorem dL_isTree_553 : decode cL_isTree 553 = .ok (.iload_n 1, 1) := by decide +kernel
theorem dL_isTree_554 : decode cL_isTree 554 = .ok (.iconst 1, 1) := by decide +kernel
theorem dL_isTree_555 : decode cL_isTree 555 = .ok (.isub, 1) := by decide +kernel
theorem dL_isTree_556 : decode cL_isTree 556 = .ok (.if_icmp .lt 9, 3) := by decide +kernel
theorem dL_isTree_559 : decode cL_isTree 559 = .ok (.iload 8, 2) := by decide +kernel
theorem dL_isTree_561 : decode cL_isTree 561 = .ok (.iconst 1, 1) := by decide +kernel
theorem dL_isTree_562 : decode cL_isTree 562 = .ok (.if_icmp .ne 59, 3) := by decide +kernel
theorem dL_isTree_565 : decode cL_isTree 565 = .ok (.iload 6, 2) := by decide +kernel
theorem dL_isTree_567 : decode cL_isTree 567 = .ok (.ifCond .gt 13, 3) := by decide +kernel
theorem dL_isTree_570 : decode cL_isTree 570 = .ok (.iload 8, 2) := by decide +kernel
theorem dL_isTree_572 : decode cL_isTree 572 = .ok (.aload_n 0, 1) := by decide +kernel
theorem dL_isTree_573 : decode cL_isTree 573 = .ok (.iconst 3, 1) := by decide +kernel
theorem dL_isTree_574 : decode cL_isTree 574 = .ok (.invokevirtual 13, 3) := by decide +kernel
theorem dL_isTree_577 : decode cL_isTree 577 = .ok (.if_icmp .ne 44, 3) := by decide +kernel
theorem dL_isTree_580 : decode cL_isTree 580 = .ok (.iload 6, 2) := by decide +kernel
theorem dL_isTree_582 : decode cL_isTree 582 = .ok (.ifCond .eq 35, 3) := by decide +kernel
theorem dL_isTree_585 : decode cL_isTree 585 = .ok (.aload_n 0, 1) := by decide +kernel
theorem dL_isTree_586 : decode cL_isTree 586 = .ok (.iload 6, 2) := by decide +kernel
theorem dL_isTree_588 : decode cL_isTree 588 = .ok (.iconst 1, 1) := by decide +kernel
theorem dL_isTree_589 : decode cL_isTree 589 = .ok (.isub, 1) := by decide +kernel
theorem dL_isTree_590 : decode cL_isTree 590 = .ok (.iload 7, 2) := by decide +kernel
theorem dL_isTree_592 : decode cL_isTree 592 = .ok (.iconst 4, 1) := by decide +kernel
theorem dL_isTree_593 : decode cL_isTree 593 = .ok (.invokevirtual 23, 3) := by decide +kernel
theorem dL_isTree_596 : decode cL_isTree 596 = .ok (.ldc 44, 2) := by decide +kernel
theorem dL_isTree_598 : decode cL_isTree 598 = .ok (.if_icmp .ne 23, 3) := by decide +kernel
theorem dL_isTree_601 : decode cL_isTree 601 = .ok (.aload_n 0, 1) := by decide +kernel
theorem dL_isTree_602 : decode cL_isTree 602 = .ok (.iload 6, 2) := by decide +kernel
theorem dL_isTree_604 : decode cL_isTree 604 = .ok (.iconst 1, 1) := by decide +kernel
theorem dL_isTree_605 : decode cL_isTree 605 = .ok (.isub, 1) := by decide +kernel
theorem dL_isTree_606 : decode cL_isTree 606 = .ok (.iload 7, 2) := by decide +kernel
theorem dL_isTree_608 : decode cL_isTree 608 = .ok (.iconst 1, 1) := by decide +kernel
theorem dL_isTree_609 : decode cL_isTree 609 = .ok (.isub, 1) := by decide +kernel
theorem dL_isTree_610 : decode cL_isTree 610 = .ok (.iconst 4, 1) := by decide +kernel
theorem dL_isTree_611 : decode cL_isTree 611 = .ok (.invokevirtual 23, 3) := by decide +kernel
theorem dL_isTree_614 : decode cL_isTree 614 = .ok (.ifCond .le 7, 3) := by decide +kernel
theorem dL_isTree_617 : decode cL_isTree 617 = .ok (.iconst 1, 1) := by decide +kernel
theorem dL_isTree_618 : decode cL_isTree 618 = .ok (.goto 4, 3) := by decide +kernel
theorem dL_isTree_621 : decode cL_isTree 621 = .ok (.iconst 0, 1) := by decide +kernel
theorem dL_isTree_622 : decode cL_isTree 622 = .ok (.istore 5, 2) := by decide +kernel
theorem dL_isTree_624 : decode cL_isTree 624 = .ok (.iinc 6 1, 3) := by decide +kernel
theorem dL_isTree_627 : decode cL_isTree 627 = .ok (.goto (-608), 3) := by decide +kernel
theorem dL_isTree_630 : decode cL_isTree 630 = .ok (.iload 5, 2) := by decide +kernel
theorem dL_isTree_632 : decode cL_isTree 632 = .ok (.ifCond .eq 46, 3) := by decide +kernel
theorem dL_isTree_635 : decode cL_isTree 635 = .ok (.iload_n 2, 1) := by decide +kernel
theorem dL_isTree_636 : decode cL_isTree 636 = .ok (.aload_n 0, 1) := by decide +kernel
theorem dL_isTree_637 : decode cL_isTree 637 = .ok (.iconst 2, 1) := by decide +kernel
theorem dL_isTree_638 : decode cL_isTree 638 = .ok (.invokevirtual 13, 3) := by decide +kernel
theorem dL_isTree_641 : decode cL_isTree 641 = .ok (.if_icmp .ne 37, 3) := by decide +kernel
theorem dL_isTree_644 : decode cL_isTree 644 = .ok (.iload_n 3, 1) := by decide +kernel
theorem dL_isTree_645 : decode cL_isTree 645 = .ok (.aload_n 0, 1) := by decide +kernel
theorem dL_isTree_646 : decode cL_isTree 646 = .ok (.bipush 10, 2) := by decide +kernel
theorem dL_isTree_648 : decode cL_isTree 648 = .ok (.invokevirtual 13, 3) := by decide +kernel
theorem dL_isTree_651 : decode cL_isTree 651 = .ok (.if_icmp .ne 27, 3) := by decide +kernel
theorem dL_isTree_654 : decode cL_isTree 654 = .ok (.iload 4, 2) := by decide +kernel
theorem dL_isTree_656 : decode cL_isTree 656 = .ok (.aload_n 0, 1) := by decide +kernel
theorem dL_isTree_657 : decode cL_isTree 657 = .ok (.iconst 0, 1) := by decide +kernel
theorem dL_isTree_658 : decode cL_isTree 658 = .ok (.invokevirtual 13, 3) := by decide +kernel
theorem dL_isTree_661 : decode cL_isTree 661 = .ok (.if_icmp .ne 17, 3) := by decide +kernel
theorem dL_isTree_664 : decode cL_isTree 664 = .ok (.aload_n 0, 1) := by decide +kernel
theorem dL_isTree_665 : decode cL_isTree 665 = .ok (.iload_n 1, 1) := by decide +kernel
theorem dL_isTree_666 : decode cL_isTree 666 = .ok (.iconst 1, 1) := by decide +kernel
theorem dL_isTree_667 : decode cL_isTree 667 = .ok (.isub, 1) := by decide +kernel
theorem dL_isTree_668 : decode cL_isTree 668 = .ok (.invokevirtual 27, 3) := by decide +kernel
theorem dL_isTree_671 : decode cL_isTree 671 = .ok (.ifCond .ne 7, 3) := by decide +kernel
theorem dL_isTree_674 : decode cL_isTree 674 = .ok (.iconst 1, 1) := by decide +kernel
theorem dL_isTree_675 : decode cL_isTree 675 = .ok (.goto 4, 3) := by decide +kernel
theorem dL_isTree_678 : decode cL_isTree 678 = .ok (.iconst 0, 1) := by decide +kernel
theorem dL_isTree_679 : decode cL_isTree 679 = .ok (.ireturn, 1) := by decide +kernel
theorem dL_isSeen_0 : decode cL_isSeen 0 = .ok (.bipush 99, 2) := by decide +kernel
theorem dL_isSeen_2 : decode cL_isSeen 2 = .ok (.iload_n 1, 1) := by decide +kernel
theorem dL_isSeen_3 : decode cL_isSeen 3 = .ok (.iload_n 3, 1) := by decide +kernel
theorem dL_isSeen_4 : decode cL_isSeen 4 = .ok (.iadd, 1) := by decide +kernel
theorem dL_isSeen_5 : decode cL_isSeen 5 = .ok (.invokestatic 71, 3) := by decide +kernel
theorem dL_isSeen_8 : decode cL_isSeen 8 = .ok (.istore 5, 2) := by decide +kernel
theorem dL_isSeen_10 : decode cL_isSeen 10 = .ok (.bipush 99, 2) := by decide +kernel
theorem dL_isSeen_12 : decode cL_isSeen 12 = .ok (.iload_n 2, 1) := by decide +kernel
theorem dL_isSeen_13 : decode cL_isSeen 13 = .ok (.iload 4, 2) := by decide +kernel
theorem dL_isSeen_15 : decode cL_isSeen 15 = .ok (.iadd, 1) := by decide +kernel
theorem dL_isSeen_16 : decode cL_isSeen 16 = .ok (.invokestatic 71, 3) := by decide +kernel
theorem dL_isSeen_19 : decode cL_isSeen 19 = .ok (.istore 6, 2) := by decide +kernel
theorem dL_isSeen_21 : decode cL_isSeen 21 = .ok (.aload_n 0, 1) := by decide +kernel
theorem dL_isSeen_22 : decode cL_isSeen 22 = .ok (.iload_n 1, 1) := by decide +kernel
theorem dL_isSeen_23 : decode cL_isSeen 23 = .ok (.iload_n 2, 1) := by decide +kernel
theorem dL_isSeen_24 : decode cL_isSeen 24 = .ok (.iload 5, 2) := by decide +kernel
theorem dL_isSeen_26 : decode cL_isSeen 26 = .ok (.iload 6, 2) := by decide +kernel
theorem dL_isSeen_28 : decode cL_isSeen 28 = .ok (.iconst 0, 1) := by decide +kernel
theorem dL_isSeen_29 : decode cL_isSeen 29 = .ok (.invokevirtual 51, 3) := by decide +kernel
theorem dL_isSeen_32 : decode cL_isSeen 32 = .ok (.istore 7, 2) := by decide +kernel
theorem dL_isSeen_34 : decode cL_isSeen 34 = .ok (.iconst 0, 1) := by decide +kernel
theorem dL_isSeen_35 : decode cL_isSeen 35 = .ok (.istore 8, 2) := by decide +kernel
theorem dL_isSeen_37 : decode cL_isSeen 37 = .ok (.iconst 1, 1) := by decide +kernel
theorem dL_isSeen_38 : decode cL_isSeen 38 = .ok (.istore 9, 2) := by decide +kernel
theorem dL_isSeen_40 : decode cL_isSeen 40 = .ok (.iconst 0, 1) := by decide +kernel
theorem dL_isSeen_41 : decode cL_isSeen 41 = .ok (.istore 10, 2) := by decide +kernel
theorem dL_isSeen_43 : decode cL_isSeen 43 = .ok (.iload 10, 2) := by decide +kernel
theorem dL_isSeen_45 : decode cL_isSeen 45 = .ok (.bipush 31, 2) := by decide +kernel
theorem dL_isSeen_47 : decode cL_isSeen 47 = .ok (.if_icmp .ge 119, 3) := by decide +kernel
theorem dL_isSeen_50 : decode cL_isSeen 50 = .ok (.iload 9, 2) := by decide +kernel
theorem dL_isSeen_52 : decode cL_isSeen 52 = .ok (.ifCond .eq 114, 3) := by decide +kernel
theorem dL_isSeen_55 : decode cL_isSeen 55 = .ok (.aload_n 0, 1) := by decide +kernel
theorem dL_isSeen_56 : decode cL_isSeen 56 = .ok (.iload 10, 2) := by decide +kernel
theorem dL_isSeen_58 : decode cL_isSeen 58 = .ok (.iconst 0, 1) := by decide +kernel
theorem dL_isSeen_59 : decode cL_isSeen 59 = .ok (.invokevirtual 19, 3) := by decide +kernel
theorem dL_isSeen_62 : decode cL_isSeen 62 = .ok (.ldc 44, 2) := by decide +kernel
theorem dL_isSeen_64 : decode cL_isSeen 64 = .ok (.if_icmp .eq 7, 3) := by decide +kernel
theorem dL_isSeen_67 : decode cL_isSeen 67 = .ok (.iconst 1, 1) := by decide +kernel
theorem dL_isSeen_68 : decode cL_isSeen 68 = .ok (.goto 4, 3) := by decide +kernel
theorem dL_isSeen_71 : decode cL_isSeen 71 = .ok (.iconst 0, 1) := by decide +kernel
theorem dL_isSeen_72 : decode cL_isSeen 72 = .ok (.istore 11, 2) := by decide +kernel
theorem dL_isSeen_74 : decode cL_isSeen 74 = .ok (.iload 11, 2) := by decide +kernel
theorem dL_isSeen_76 : decode cL_isSeen 76 = .ok (.ifCond .eq 53, 3) := by decide +kernel
theorem dL_isSeen_79 : decode cL_isSeen 79 = .ok (.aload_n 0, 1) := by decide +kernel
theorem dL_isSeen_80 : decode cL_isSeen 80 = .ok (.iload 10, 2) := by decide +kernel
theorem dL_isSeen_82 : decode cL_isSeen 82 = .ok (.iconst 0, 1) := by decide +kernel
theorem dL_isSeen_83 : decode cL_isSeen 83 = .ok (.invokevirtual 19, 3) := by decide +kernel
theorem dL_isSeen_86 : decode cL_isSeen 86 = .ok (.iload 5, 2) := by decide +kernel
theorem dL_isSeen_88 : decode cL_isSeen 88 = .ok (.if_icmp .gt 41, 3) := by decide +kernel
theorem dL_isSeen_91 : decode cL_isSeen 91 = .ok (.aload_n 0, 1) := by decide +kernel
theorem dL_isSeen_92 : decode cL_isSeen 92 = .ok (.iload 10, 2) := by decide +kernel
theorem dL_isSeen_94 : decode cL_isSeen 94 = .ok (.iconst 2, 1) := by decide +kernel
theorem dL_isSeen_95 : decode cL_isSeen 95 = .ok (.invokevirtual 19, 3) := by decide +kernel
theorem dL_isSeen_98 : decode cL_isSeen 98 = .ok (.iload_n 1, 1) := by decide +kernel
theorem dL_isSeen_99 : decode cL_isSeen 99 = .ok (.if_icmp .lt 30, 3) := by decide +kernel
theorem dL_isSeen_102 : decode cL_isSeen 102 = .ok (.aload_n 0, 1) := by decide +kernel
theorem dL_isSeen_103 : decode cL_isSeen 103 = .ok (.iload 10, 2) := by decide +kernel
theorem dL_isSeen_105 : decode cL_isSeen 105 = .ok (.iconst 1, 1) := by decide +kernel
theorem dL_isSeen_106 : decode cL_isSeen 106 = .ok (.invokevirtual 19, 3) := by decide +kernel
theorem dL_isSeen_109 : decode cL_isSeen 109 = .ok (.iload 6, 2) := by decide +kernel
theorem dL_isSeen_111 : decode cL_isSeen 111 = .ok (.if_icmp .gt 18, 3) := by decide +kernel
theorem dL_isSeen_114 : decode cL_isSeen 114 = .ok (.aload_n 0, 1) := by decide +kernel
theorem dL_isSeen_115 : decode cL_isSeen 115 = .ok (.iload 10, 2) := by decide +kernel
theorem dL_isSeen_117 : decode cL_isSeen 117 = .ok (.iconst 3, 1) := by decide +kernel
theorem dL_isSeen_118 : decode cL_isSeen 118 = .ok (.invokevirtual 19, 3) := by decide +kernel
theorem dL_isSeen_121 : decode cL_isSeen 121 = .ok (.iload_n 2, 1) := by decide +kernel
theorem dL_isSeen_122 : decode cL_isSeen 122 = .ok (.if_icmp .lt 7, 3) := by decide +kernel
theorem dL_isSeen_125 : decode cL_isSeen 125 = .ok (.iconst 1, 1) := by decide +kernel
theorem dL_isSeen_126 : decode cL_isSeen 126 = .ok (.goto 4, 3) := by decide +kernel
theorem dL_isSeen_129 : decode cL_isSeen 129 = .ok (.iconst 0, 1) := by decide +kernel
theorem dL_isSeen_130 : decode cL_isSeen 130 = .ok (.istore 12, 2) := by decide +kernel
theorem dL_isSeen_132 : decode cL_isSeen 132 = .ok (.iload 12, 2) := by decide +kernel
theorem dL_isSeen_134 : decode cL_isSeen 134 = .ok (.iload 7, 2) := by decide +kernel
theorem dL_isSeen_136 : decode cL_isSeen 136 = .ok (.iload 10, 2) := by decide +kernel
theorem dL_isSeen_138 : decode cL_isSeen 138 = .ok (.ishr, 1) := by decide +kernel
theorem dL_isSeen_139 : decode cL_isSeen 139 = .ok (.iconst 1, 1) := by decide +kernel
theorem dL_isSeen_140 : decode cL_isSeen 140 = .ok (.iand, 1) := by decide +kernel
theorem dL_isSeen_141 : decode cL_isSeen 141 = .ok (.iconst 1, 1) := by decide +kernel
theorem dL_isSeen_142 : decode cL_isSeen 142 = .ok (.if_icmp .ne 7, 3) := by decide +kernel
theorem dL_isSeen_145 : decode cL_isSeen 145 = .ok (.iconst 1, 1) := by decide +kernel
theorem dL_isSeen_146 : decode cL_isSeen 146 = .ok (.goto 4, 3) := by decide +kernel
theorem dL_isSeen_149 : decode cL_isSeen 149 = .ok (.iconst 0, 1) := by decide +kernel
theorem dL_isSeen_150 : decode cL_isSeen 150 = .ok (.if_icmp .ne 7, 3) := by decide +kernel
theorem dL_isSeen_153 : decode cL_isSeen 153 = .ok (.iconst 1, 1) := by decide +kernel
theorem dL_isSeen_154 : decode cL_isSeen 154 = .ok (.goto 4, 3) := by decide +kernel
theorem dL_isSeen_157 : decode cL_isSeen 157 = .ok (.iconst 0, 1) := by decide +kernel
theorem dL_isSeen_158 : decode cL_isSeen 158 = .ok (.istore 9, 2) := by decide +kernel
theorem dL_isSeen_160 : decode cL_isSeen 160 = .ok (.iinc 10 1, 3) := by decide +kernel
theorem dL_isSeen_163 : decode cL_isSeen 163 = .ok (.goto (-120), 3) := by decide +kernel
theorem dL_isSeen_166 : decode cL_isSeen 166 = .ok (.iconst 0, 1) := by decide +kernel
theorem dL_isSeen_167 : decode cL_isSeen 167 = .ok (.istore 10, 2) := by decide +kernel
theorem dL_isSeen_169 : decode cL_isSeen 169 = .ok (.iload 10, 2) := by decide +kernel
theorem dL_isSeen_171 : decode cL_isSeen 171 = .ok (.aload_n 0, 1) := by decide +kernel
theorem dL_isSeen_172 : decode cL_isSeen 172 = .ok (.iconst 1, 1) := by decide +kernel
theorem dL_isSeen_173 : decode cL_isSeen 173 = .ok (.invokevirtual 13, 3) := by decide +kernel
theorem dL_isSeen_176 : decode cL_isSeen 176 = .ok (.if_icmp .ge 94, 3) := by decide +kernel
theorem dL_isSeen_179 : decode cL_isSeen 179 = .ok (.iconst 0, 1) := by decide +kernel
theorem dL_isSeen_180 : decode cL_isSeen 180 = .ok (.istore 11, 2) := by decide +kernel
theorem dL_isSeen_182 : decode cL_isSeen 182 = .ok (.aload_n 0, 1) := by decide +kernel
theorem dL_isSeen_183 : decode cL_isSeen 183 = .ok (.iload 10, 2) := by decide +kernel
theorem dL_isSeen_185 : decode cL_isSeen 185 = .ok (.iload 11, 2) := by decide +kernel
theorem dL_isSeen_187 : decode cL_isSeen 187 = .ok (.iconst 4, 1) := by decide +kernel
theorem dL_isSeen_188 : decode cL_isSeen 188 = .ok (.invokevirtual 23, 3) := by decide +kernel
theorem dL_isSeen_191 : decode cL_isSeen 191 = .ok (.ifCond .le 73, 3) := by decide +kernel
theorem dL_isSeen_194 : decode cL_isSeen 194 = .ok (.iload 8, 2) := by decide +kernel
theorem dL_isSeen_196 : decode cL_isSeen 196 = .ok (.aload_n 0, 1) := by decide +kernel
theorem dL_isSeen_197 : decode cL_isSeen 197 = .ok (.iload 10, 2) := by decide +kernel
theorem dL_isSeen_199 : decode cL_isSeen 199 = .ok (.iload 11, 2) := by decide +kernel
theorem dL_isSeen_201 : decode cL_isSeen 201 = .ok (.iconst 0, 1) := by decide +kernel
theorem dL_isSeen_202 : decode cL_isSeen 202 = .ok (.invokevirtual 23, 3) := by decide +kernel
theorem dL_isSeen_205 : decode cL_isSeen 205 = .ok (.iload 5, 2) := by decide +kernel
theorem dL_isSeen_207 : decode cL_isSeen 207 = .ok (.if_icmp .gt 47, 3) := by decide +kernel
theorem dL_isSeen_210 : decode cL_isSeen 210 = .ok (.aload_n 0, 1) := by decide +kernel
theorem dL_isSeen_211 : decode cL_isSeen 211 = .ok (.iload 10, 2) := by decide +kernel
theorem dL_isSeen_213 : decode cL_isSeen 213 = .ok (.iload 11, 2) := by decide +kernel
theorem dL_isSeen_215 : decode cL_isSeen 215 = .ok (.iconst 2, 1) := by decide +kernel
theorem dL_isSeen_216 : decode cL_isSeen 216 = .ok (.invokevirtual 23, 3) := by decide +kernel
theorem dL_isSeen_219 : decode cL_isSeen 219 = .ok (.iload_n 1, 1) := by decide +kernel
theorem dL_isSeen_220 : decode cL_isSeen 220 = .ok (.if_icmp .lt 34, 3) := by decide +kernel
theorem dL_isSeen_223 : decode cL_isSeen 223 = .ok (.aload_n 0, 1) := by decide +kernel
theorem dL_isSeen_224 : decode cL_isSeen 224 = .ok (.iload 10, 2) := by decide +kernel
theorem dL_isSeen_226 : decode cL_isSeen 226 = .ok (.iload 11, 2) := by decide +kernel
theorem dL_isSeen_228 : decode cL_isSeen 228 = .ok (.iconst 1, 1) := by decide +kernel
theorem dL_isSeen_229 : decode cL_isSeen 229 = .ok (.invokevirtual 23, 3) := by decide +kernel
theorem dL_isSeen_232 : decode cL_isSeen 232 = .ok (.iload 6, 2) := by decide +kernel
theorem dL_isSeen_234 : decode cL_isSeen 234 = .ok (.if_icmp .gt 20, 3) := by decide +kernel
theorem dL_isSeen_237 : decode cL_isSeen 237 = .ok (.aload_n 0, 1) := by decide +kernel
theorem dL_isSeen_238 : decode cL_isSeen 238 = .ok (.iload 10, 2) := by decide +kernel
theorem dL_isSeen_240 : decode cL_isSeen 240 = .ok (.iload 11, 2) := by decide +kernel
theorem dL_isSeen_242 : decode cL_isSeen 242 = .ok (.iconst 3, 1) := by decide +kernel
theorem dL_isSeen_243 : decode cL_isSeen 243 = .ok (.invokevirtual 23, 3) := by decide +kernel
theorem dL_isSeen_246 : decode cL_isSeen 246 = .ok (.iload_n 2, 1) := by decide +kernel
theorem dL_isSeen_247 : decode cL_isSeen 247 = .ok (.if_icmp .lt 7, 3) := by decide +kernel
theorem dL_isSeen_250 : decode cL_isSeen 250 = .ok (.iconst 1, 1) := by decide +kernel
theorem dL_isSeen_251 : decode cL_isSeen 251 = .ok (.goto 4, 3) := by decide +kernel
theorem dL_isSeen_254 : decode cL_isSeen 254 = .ok (.iconst 0, 1) := by decide +kernel
theorem dL_isSeen_255 : decode cL_isSeen 255 = .ok (.iadd, 1) := by decide +kernel
theorem dL_isSeen_256 : decode cL_isSeen 256 = .ok (.istore 8, 2) := by decide +kernel
theorem dL_isSeen_258 : decode cL_isSeen 258 = .ok (.iinc 11 1, 3) := by decide +kernel
theorem dL_isSeen_261 : decode cL_isSeen 261 = .ok (.goto (-79), 3) := by decide +kernel
theorem dL_isSeen_264 : decode cL_isSeen 264 = .ok (.iinc 10 1, 3) := by decide +kernel
theorem dL_isSeen_267 : decode cL_isSeen 267 = .ok (.goto (-98), 3) := by decide +kernel
theorem dL_isSeen_270 : decode cL_isSeen 270 = .ok (.iload 9, 2) := by decide +kernel
theorem dL_isSeen_272 : decode cL_isSeen 272 = .ok (.ifCond .eq 23, 3) := by decide +kernel
theorem dL_isSeen_275 : decode cL_isSeen 275 = .ok (.iload 8, 2) := by decide +kernel
theorem dL_isSeen_277 : decode cL_isSeen 277 = .ok (.aload_n 0, 1) := by decide +kernel
theorem dL_isSeen_278 : decode cL_isSeen 278 = .ok (.iload_n 1, 1) := by decide +kernel
theorem dL_isSeen_279 : decode cL_isSeen 279 = .ok (.iload_n 2, 1) := by decide +kernel
theorem dL_isSeen_280 : decode cL_isSeen 280 = .ok (.iload 5, 2) := by decide +kernel
theorem dL_isSeen_282 : decode cL_isSeen 282 = .ok (.iload 6, 2) := by decide +kernel
theorem dL_isSeen_284 : decode cL_isSeen 284 = .ok (.iconst 1, 1) := by decide +kernel
theorem dL_isSeen_285 : decode cL_isSeen 285 = .ok (.invokevirtual 51, 3) := by decide +kernel
theorem dL_isSeen_288 : decode cL_isSeen 288 = .ok (.if_icmp .ne 7, 3) := by decide +kernel
theorem dL_isSeen_291 : decode cL_isSeen 291 = .ok (.iconst 1, 1) := by decide +kernel
theorem dL_isSeen_292 : decode cL_isSeen 292 = .ok (.goto 4, 3) := by decide +kernel
theorem dL_isSeen_295 : decode cL_isSeen 295 = .ok (.iconst 0, 1) := by decide +kernel
theorem dL_isSeen_296 : decode cL_isSeen 296 = .ok (.istore 9, 2) := by decide +kernel
theorem dL_isSeen_298 : decode cL_isSeen 298 = .ok (.iconst 0, 1) := by decide +kernel
theorem dL_isSeen_299 : decode cL_isSeen 299 = .ok (.istore 10, 2) := by decide +kernel
theorem dL_isSeen_301 : decode cL_isSeen 301 = .ok (.iconst 0, 1) := by decide +kernel
theorem dL_isSeen_302 : decode cL_isSeen 302 = .ok (.istore 11, 2) := by decide +kernel
theorem dL_isSeen_304 : decode cL_isSeen 304 = .ok (.iload 11, 2) := by decide +kernel
theorem dL_isSeen_306 : decode cL_isSeen 306 = .ok (.aload_n 0, 1) := by decide +kernel
theorem dL_isSeen_307 : decode cL_isSeen 307 = .ok (.iconst 0, 1) := by decide +kernel
theorem dL_isSeen_308 : decode cL_isSeen 308 = .ok (.invokevirtual 13, 3) := by decide +kernel
theorem dL_isSeen_311 : decode cL_isSeen 311 = .ok (.if_icmp .ge 218, 3) := by decide +kernel
theorem dL_isSeen_314 : decode cL_isSeen 314 = .ok (.iload 9, 2) := by decide +kernel
theorem dL_isSeen_316 : decode cL_isSeen 316 = .ok (.ifCond .eq 213, 3) := by decide +kernel
theorem dL_isSeen_319 : decode cL_isSeen 319 = .ok (.aload_n 0, 1) := by decide +kernel
theorem dL_isSeen_320 : decode cL_isSeen 320 = .ok (.iload_n 1, 1) := by decide +kernel
theorem dL_isSeen_321 : decode cL_isSeen 321 = .ok (.iload_n 2, 1) := by decide +kernel
theorem dL_isSeen_322 : decode cL_isSeen 322 = .ok (.iload 11, 2) := by decide +kernel
theorem dL_isSeen_324 : decode cL_isSeen 324 = .ok (.iconst 0, 1) := by decide +kernel
theorem dL_isSeen_325 : decode cL_isSeen 325 = .ok (.invokevirtual 54, 3) := by decide +kernel
theorem dL_isSeen_328 : decode cL_isSeen 328 = .ok (.istore 12, 2) := by decide +kernel
theorem dL_isSeen_330 : decode cL_isSeen 330 = .ok (.aload_n 0, 1) := by decide +kernel
theorem dL_isSeen_331 : decode cL_isSeen 331 = .ok (.iload_n 1, 1) := by decide +kernel
theorem dL_isSeen_332 : decode cL_isSeen 332 = .ok (.iload_n 2, 1) := by decide +kernel
theorem dL_isSeen_333 : decode cL_isSeen 333 = .ok (.iload 11, 2) := by decide +kernel
theorem dL_isSeen_335 : decode cL_isSeen 335 = .ok (.iconst 1, 1) := by decide +kernel
theorem dL_isSeen_336 : decode cL_isSeen 336 = .ok (.invokevirtual 54, 3) := by decide +kernel
theorem dL_isSeen_339 : decode cL_isSeen 339 = .ok (.istore 13, 2) := by decide +kernel
theorem dL_isSeen_341 : decode cL_isSeen 341 = .ok (.iconst 0, 1) := by decide +kernel
theorem dL_isSeen_342 : decode cL_isSeen 342 = .ok (.aload_n 0, 1) := by decide +kernel
theorem dL_isSeen_343 : decode cL_isSeen 343 = .ok (.iload 12, 2) := by decide +kernel
theorem dL_isSeen_345 : decode cL_isSeen 345 = .ok (.iconst 0, 1) := by decide +kernel
theorem dL_isSeen_346 : decode cL_isSeen 346 = .ok (.invokevirtual 19, 3) := by decide +kernel
theorem dL_isSeen_349 : decode cL_isSeen 349 = .ok (.iload_n 1, 1) := by decide +kernel
theorem dL_isSeen_350 : decode cL_isSeen 350 = .ok (.isub, 1) := by decide +kernel
theorem dL_isSeen_351 : decode cL_isSeen 351 = .ok (.iload_n 1, 1) := by decide +kernel
theorem dL_isSeen_352 : decode cL_isSeen 352 = .ok (.aload_n 0, 1) := by decide +kernel
theorem dL_isSeen_353 : decode cL_isSeen 353 = .ok (.iload 12, 2) := by decide +kernel
theorem dL_isSeen_355 : decode cL_isSeen 355 = .ok (.iconst 2, 1) := by decide +kernel
theorem dL_isSeen_356 : decode cL_isSeen 356 = .ok (.invokevirtual 19, 3) := by decide +kernel
theorem dL_isSeen_359 : decode cL_isSeen 359 = .ok (.isub, 1) := by decide +kernel
theorem dL_isSeen_360 : decode cL_isSeen 360 = .ok (.invokestatic 74, 3) := by decide +kernel
theorem dL_isSeen_363 : decode cL_isSeen 363 = .ok (.invokestatic 74, 3) := by decide +kernel
theorem dL_isSeen_366 : decode cL_isSeen 366 = .ok (.istore 14, 2) := by decide +kernel
theorem dL_isSeen_368 : decode cL_isSeen 368 = .ok (.iconst 0, 1) := by decide +kernel
theorem dL_isSeen_369 : decode cL_isSeen 369 = .ok (.aload_n 0, 1) := by decide +kernel
theorem dL_isSeen_370 : decode cL_isSeen 370 = .ok (.iload 12, 2) := by decide +kernel
theorem dL_isSeen_372 : decode cL_isSeen 372 = .ok (.iconst 1, 1) := by decide +kernel
theorem dL_isSeen_373 : decode cL_isSeen 373 = .ok (.invokevirtual 19, 3) := by decide +kernel
theorem dL_isSeen_376 : decode cL_isSeen 376 = .ok (.iload_n 2, 1) := by decide +kernel
theorem dL_isSeen_377 : decode cL_isSeen 377 = .ok (.isub, 1) := by decide +kernel
theorem dL_isSeen_378 : decode cL_isSeen 378 = .ok (.iload_n 2, 1) := by decide +kernel
theorem dL_isSeen_379 : decode cL_isSeen 379 = .ok (.aload_n 0, 1) := by decide +kernel
theorem dL_isSeen_380 : decode cL_isSeen 380 = .ok (.iload 12, 2) := by decide +kernel
theorem dL_isSeen_382 : decode cL_isSeen 382 = .ok (.iconst 3, 1) := by decide +kernel
theorem dL_isSeen_383 : decode cL_isSeen 383 = .ok (.invokevirtual 19, 3) := by decide +kernel
theorem dL_isSeen_386 : decode cL_isSeen 386 = .ok (.isub, 1) := by decide +kernel
theorem dL_isSeen_387 : decode cL_isSeen 387 = .ok (.invokestatic 74, 3) := by decide +kernel
theorem dL_isSeen_390 : decode cL_isSeen 390 = .ok (.invokestatic 74, 3) := by decide +kernel
theorem dL_isSeen_393 : decode cL_isSeen 393 = .ok (.istore 15, 2) := by decide +kernel
theorem dL_isSeen_395 : decode cL_isSeen 395 = .ok (.iload 11, 2) := by decide +kernel
theorem dL_isSeen_397 : decode cL_isSeen 397 = .ok (.ifCond .ne 7, 3) := by decide +kernel
theorem dL_isSeen_400 : decode cL_isSeen 400 = .ok (.iconst (-1), 1) := by decide +kernel
theorem dL_isSeen_401 : decode cL_isSeen 401 = .ok (.goto 14, 3) := by decide +kernel
theorem dL_isSeen_404 : decode cL_isSeen 404 = .ok (.aload_n 0, 1) := by decide +kernel
theorem dL_isSeen_405 : decode cL_isSeen 405 = .ok (.iload_n 1, 1) := by decide +kernel
theorem dL_isSeen_406 : decode cL_isSeen 406 = .ok (.iload_n 2, 1) := by decide +kernel
theorem dL_isSeen_407 : decode cL_isSeen 407 = .ok (.iload 11, 2) := by decide +kernel
theorem dL_isSeen_409 : decode cL_isSeen 409 = .ok (.iconst 1, 1) := by decide +kernel
theorem dL_isSeen_410 : decode cL_isSeen 410 = .ok (.isub, 1) := by decide +kernel
theorem dL_isSeen_411 : decode cL_isSeen 411 = .ok (.iconst 1, 1) := by decide +kernel
theorem dL_isSeen_412 : decode cL_isSeen 412 = .ok (.invokevirtual 54, 3) := by decide +kernel
theorem dL_isSeen_415 : decode cL_isSeen 415 = .ok (.istore 16, 2) := by decide +kernel
theorem dL_isSeen_417 : decode cL_isSeen 417 = .ok (.iload 10, 2) := by decide +kernel
theorem dL_isSeen_419 : decode cL_isSeen 419 = .ok (.iload 12, 2) := by decide +kernel
theorem dL_isSeen_421 : decode cL_isSeen 421 = .ok (.ishr, 1) := by decide +kernel
theorem dL_isSeen_422 : decode cL_isSeen 422 = .ok (.iconst 1, 1) := by decide +kernel
theorem dL_isSeen_423 : decode cL_isSeen 423 = .ok (.iand, 1) := by decide +kernel
theorem dL_isSeen_424 : decode cL_isSeen 424 = .ok (.ifCond .ne 87, 3) := by decide +kernel
theorem dL_isSeen_427 : decode cL_isSeen 427 = .ok (.iload 13, 2) := by decide +kernel
theorem dL_isSeen_429 : decode cL_isSeen 429 = .ok (.iload 14, 2) := by decide +kernel
theorem dL_isSeen_431 : decode cL_isSeen 431 = .ok (.iload 14, 2) := by decide +kernel
theorem dL_isSeen_433 : decode cL_isSeen 433 = .ok (.imul, 1) := by decide +kernel
theorem dL_isSeen_434 : decode cL_isSeen 434 = .ok (.iload 15, 2) := by decide +kernel
theorem dL_isSeen_436 : decode cL_isSeen 436 = .ok (.iload 15, 2) := by decide +kernel
theorem dL_isSeen_438 : decode cL_isSeen 438 = .ok (.imul, 1) := by decide +kernel
theorem dL_isSeen_439 : decode cL_isSeen 439 = .ok (.iadd, 1) := by decide +kernel
theorem dL_isSeen_440 : decode cL_isSeen 440 = .ok (.if_icmp .ne 71, 3) := by decide +kernel
theorem dL_isSeen_443 : decode cL_isSeen 443 = .ok (.iload 13, 2) := by decide +kernel
theorem dL_isSeen_445 : decode cL_isSeen 445 = .ok (.iload 16, 2) := by decide +kernel
theorem dL_isSeen_447 : decode cL_isSeen 447 = .ok (.if_icmp .gt 26, 3) := by decide +kernel
theorem dL_isSeen_450 : decode cL_isSeen 450 = .ok (.iload 13, 2) := by decide +kernel
theorem dL_isSeen_452 : decode cL_isSeen 452 = .ok (.iload 16, 2) := by decide +kernel
theorem dL_isSeen_454 : decode cL_isSeen 454 = .ok (.if_icmp .ne 57, 3) := by decide +kernel
theorem dL_isSeen_457 : decode cL_isSeen 457 = .ok (.iload 12, 2) := by decide +kernel
theorem dL_isSeen_459 : decode cL_isSeen 459 = .ok (.aload_n 0, 1) := by decide +kernel
theorem dL_isSeen_460 : decode cL_isSeen 460 = .ok (.iload_n 1, 1) := by decide +kernel
theorem dL_isSeen_461 : decode cL_isSeen 461 = .ok (.iload_n 2, 1) := by decide +kernel
theorem dL_isSeen_462 : decode cL_isSeen 462 = .ok (.iload 11, 2) := by decide +kernel
theorem dL_isSeen_464 : decode cL_isSeen 464 = .ok (.iconst 1, 1) := by decide +kernel
theorem dL_isSeen_465 : decode cL_isSeen 465 = .ok (.isub, 1) := by decide +kernel
theorem dL_isSeen_466 : decode cL_isSeen 466 = .ok (.iconst 0, 1) := by decide +kernel
theorem dL_isSeen_467 : decode cL_isSeen 467 = .ok (.invokevirtual 54, 3) := by decide +kernel
theorem dL_isSeen_470 : decode cL_isSeen 470 = .ok (.if_icmp .le 41, 3) := by decide +kernel
theorem dL_isSeen_473 : decode cL_isSeen 473 = .ok (.aload_n 0, 1) := by decide +kernel
theorem dL_isSeen_474 : decode cL_isSeen 474 = .ok (.iload_n 1, 1) := by decide +kernel
theorem dL_isSeen_475 : decode cL_isSeen 475 = .ok (.iload_n 2, 1) := by decide +kernel
theorem dL_isSeen_476 : decode cL_isSeen 476 = .ok (.iload 11, 2) := by decide +kernel
theorem dL_isSeen_478 : decode cL_isSeen 478 = .ok (.iconst 2, 1) := by decide +kernel
theorem dL_isSeen_479 : decode cL_isSeen 479 = .ok (.invokevirtual 54, 3) := by decide +kernel
theorem dL_isSeen_482 : decode cL_isSeen 482 = .ok (.aload_n 0, 1) := by decide +kernel
theorem dL_isSeen_483 : decode cL_isSeen 483 = .ok (.iconst 1, 1) := by decide +kernel
theorem dL_isSeen_484 : decode cL_isSeen 484 = .ok (.invokevirtual 13, 3) := by decide +kernel
theorem dL_isSeen_487 : decode cL_isSeen 487 = .ok (.if_icmp .lt 24, 3) := by decide +kernel
theorem dL_isSeen_490 : decode cL_isSeen 490 = .ok (.aload_n 0, 1) := by decide +kernel
theorem dL_isSeen_491 : decode cL_isSeen 491 = .ok (.iload_n 1, 1) := by decide +kernel
theorem dL_isSeen_492 : decode cL_isSeen 492 = .ok (.iload_n 2, 1) := by decide +kernel
theorem dL_isSeen_493 : decode cL_isSeen 493 = .ok (.iload 11, 2) := by decide +kernel
theorem dL_isSeen_495 : decode cL_isSeen 495 = .ok (.iconst 2, 1) := by decide +kernel
theorem dL_isSeen_496 : decode cL_isSeen 496 = .ok (.invokevirtual 54, 3) := by decide +kernel
theorem dL_isSeen_499 : decode cL_isSeen 499 = .ok (.aload_n 0, 1) := by decide +kernel
theorem dL_isSeen_500 : decode cL_isSeen 500 = .ok (.iconst 2, 1) := by decide +kernel
theorem dL_isSeen_501 : decode cL_isSeen 501 = .ok (.invokevirtual 13, 3) := by decide +kernel
theorem dL_isSeen_504 : decode cL_isSeen 504 = .ok (.if_icmp .gt 7, 3) := by decide +kernel
theorem dL_isSeen_507 : decode cL_isSeen 507 = .ok (.iconst 1, 1) := by decide +kernel
theorem dL_isSeen_508 : decode cL_isSeen 508 = .ok (.goto 4, 3) := by decide +kernel
theorem dL_isSeen_511 : decode cL_isSeen 511 = .ok (.iconst 0, 1) := by decide +kernel
theorem dL_isSeen_512 : decode cL_isSeen 512 = .ok (.istore 9, 2) := by decide +kernel
theorem dL_isSeen_514 : decode cL_isSeen 514 = .ok (.iload 10, 2) := by decide +kernel
theorem dL_isSeen_516 : decode cL_isSeen 516 = .ok (.iconst 1, 1) := by decide +kernel
theorem dL_isSeen_517 : decode cL_isSeen 517 = .ok (.iload 12, 2) := by decide +kernel
theorem dL_isSeen_519 : decode cL_isSeen 519 = .ok (.ishl, 1) := by decide +kernel
theorem dL_isSeen_520 : decode cL_isSeen 520 = .ok (.ior, 1) := by decide +kernel
theorem dL_isSeen_521 : decode cL_isSeen 521 = .ok (.istore 10, 2) := by decide +kernel
theorem dL_isSeen_523 : decode cL_isSeen 523 = .ok (.iinc 11 1, 3) := by decide +kernel
theorem dL_isSeen_526 : decode cL_isSeen 526 = .ok (.goto (-222), 3) := by decide +kernel
theorem dL_isSeen_529 : decode cL_isSeen 529 = .ok (.iload 9, 2) := by decide +kernel
theorem dL_isSeen_531 : decode cL_isSeen 531 = .ok (.ireturn, 1) := by decide +kernel
theorem dL_isAhead_0 : decode cL_isAhead 0 = .ok (.aload_n 0, 1) := by decide +kernel
theorem dL_isAhead_1 : decode cL_isAhead 1 = .ok (.invokestatic 30, 3) := by decide +kernel
theorem dL_isAhead_4 : decode cL_isAhead 4 = .ok (.lstore 5, 2) := by decide +kernel
theorem dL_isAhead_6 : decode cL_isAhead 6 = .ok (.bipush 99, 2) := by decide +kernel
theorem dL_isAhead_8 : decode cL_isAhead 8 = .ok (.iload_n 1, 1) := by decide +kernel
theorem dL_isAhead_9 : decode cL_isAhead 9 = .ok (.iload_n 3, 1) := by decide +kernel
theorem dL_isAhead_10 : decode cL_isAhead 10 = .ok (.iadd, 1) := by decide +kernel
theorem dL_isAhead_11 : decode cL_isAhead 11 = .ok (.invokestatic 71, 3) := by decide +kernel
theorem dL_isAhead_14 : decode cL_isAhead 14 = .ok (.istore 7, 2) := by decide +kernel
theorem dL_isAhead_16 : decode cL_isAhead 16 = .ok (.bipush 99, 2) := by decide +kernel
theorem dL_isAhead_18 : decode cL_isAhead 18 = .ok (.iload_n 2, 1) := by decide +kernel
theorem dL_isAhead_19 : decode cL_isAhead 19 = .ok (.iload 4, 2) := by decide +kernel
theorem dL_isAhead_21 : decode cL_isAhead 21 = .ok (.iadd, 1) := by decide +kernel
theorem dL_isAhead_22 : decode cL_isAhead 22 = .ok (.invokestatic 71, 3) := by decide +kernel
theorem dL_isAhead_25 : decode cL_isAhead 25 = .ok (.istore 8, 2) := by decide +kernel
theorem dL_isAhead_27 : decode cL_isAhead 27 = .ok (.iconst 0, 1) := by decide +kernel
theorem dL_isAhead_28 : decode cL_isAhead 28 = .ok (.istore 9, 2) := by decide +kernel
theorem dL_isAhead_30 : decode cL_isAhead 30 = .ok (.iload 9, 2) := by decide +kernel
theorem dL_isAhead_32 : decode cL_isAhead 32 = .ok (.bipush 31, 2) := by decide +kernel
theorem dL_isAhead_34 : decode cL_isAhead 34 = .ok (.if_icmp .ge 21, 3) := by decide +kernel
theorem dL_isAhead_37 : decode cL_isAhead 37 = .ok (.aload_n 0, 1) := by decide +kernel
theorem dL_isAhead_38 : decode cL_isAhead 38 = .ok (.iload 9, 2) := by decide +kernel
theorem dL_isAhead_40 : decode cL_isAhead 40 = .ok (.iconst 0, 1) := by decide +kernel
theorem dL_isAhead_41 : decode cL_isAhead 41 = .ok (.invokevirtual 19, 3) := by decide +kernel
theorem dL_isAhead_44 : decode cL_isAhead 44 = .ok (.ldc 44, 2) := by decide +kernel
theorem dL_isAhead_46 : decode cL_isAhead 46 = .ok (.if_icmp .eq 9, 3) := by decide +kernel
theorem dL_isAhead_49 : decode cL_isAhead 49 = .ok (.iinc 9 1, 3) := by decide +kernel
theorem dL_isAhead_52 : decode cL_isAhead 52 = .ok (.goto (-22), 3) := by decide +kernel
theorem dL_isAhead_55 : decode cL_isAhead 55 = .ok (.iload 9, 2) := by decide +kernel
theorem dL_isAhead_57 : decode cL_isAhead 57 = .ok (.bipush 31, 2) := by decide +kernel
theorem dL_isAhead_59 : decode cL_isAhead 59 = .ok (.if_icmp .ne 25, 3) := by decide +kernel
theorem dL_isAhead_62 : decode cL_isAhead 62 = .ok (.aload_n 0, 1) := by decide +kernel
theorem dL_isAhead_63 : decode cL_isAhead 63 = .ok (.iload_n 1, 1) := by decide +kernel
theorem dL_isAhead_64 : decode cL_isAhead 64 = .ok (.iload_n 2, 1) := by decide +kernel
theorem dL_isAhead_65 : decode cL_isAhead 65 = .ok (.iload 7, 2) := by decide +kernel
theorem dL_isAhead_67 : decode cL_isAhead 67 = .ok (.iload 8, 2) := by decide +kernel
theorem dL_isAhead_69 : decode cL_isAhead 69 = .ok (.iconst 0, 1) := by decide +kernel
theorem dL_isAhead_70 : decode cL_isAhead 70 = .ok (.invokevirtual 58, 3) := by decide +kernel
theorem dL_isAhead_73 : decode cL_isAhead 73 = .ok (.ldc 70, 2) := by decide +kernel
theorem dL_isAhead_75 : decode cL_isAhead 75 = .ok (.if_icmp .ne 7, 3) := by decide +kernel
theorem dL_isAhead_78 : decode cL_isAhead 78 = .ok (.iconst 1, 1) := by decide +kernel
theorem dL_isAhead_79 : decode cL_isAhead 79 = .ok (.goto 4, 3) := by decide +kernel
theorem dL_isAhead_82 : decode cL_isAhead 82 = .ok (.iconst 0, 1) := by decide +kernel
theorem dL_isAhead_83 : decode cL_isAhead 83 = .ok (.ireturn, 1) := by decide +kernel
theorem dL_isAhead_84 : decode cL_isAhead 84 = .ok (.aload_n 0, 1) := by decide +kernel
theorem dL_isAhead_85 : decode cL_isAhead 85 = .ok (.iload_n 1, 1) := by decide +kernel
theorem dL_isAhead_86 : decode cL_isAhead 86 = .ok (.iload_n 2, 1) := by decide +kernel
theorem dL_isAhead_87 : decode cL_isAhead 87 = .ok (.iload 7, 2) := by decide +kernel
theorem dL_isAhead_89 : decode cL_isAhead 89 = .ok (.iload 8, 2) := by decide +kernel
theorem dL_isAhead_91 : decode cL_isAhead 91 = .ok (.iconst 0, 1) := by decide +kernel
theorem dL_isAhead_92 : decode cL_isAhead 92 = .ok (.invokevirtual 58, 3) := by decide +kernel
theorem dL_isAhead_95 : decode cL_isAhead 95 = .ok (.istore 10, 2) := by decide +kernel
theorem dL_isAhead_97 : decode cL_isAhead 97 = .ok (.aload_n 0, 1) := by decide +kernel
theorem dL_isAhead_98 : decode cL_isAhead 98 = .ok (.iload_n 1, 1) := by decide +kernel
theorem dL_isAhead_99 : decode cL_isAhead 99 = .ok (.iload_n 2, 1) := by decide +kernel
theorem dL_isAhead_100 : decode cL_isAhead 100 = .ok (.iload 7, 2) := by decide +kernel
theorem dL_isAhead_102 : decode cL_isAhead 102 = .ok (.iload 8, 2) := by decide +kernel
theorem dL_isAhead_104 : decode cL_isAhead 104 = .ok (.iconst 1, 1) := by decide +kernel
theorem dL_isAhead_105 : decode cL_isAhead 105 = .ok (.invokevirtual 58, 3) := by decide +kernel
theorem dL_isAhead_108 : decode cL_isAhead 108 = .ok (.istore 11, 2) := by decide +kernel
theorem dL_isAhead_110 : decode cL_isAhead 110 = .ok (.aload_n 0, 1) := by decide +kernel
theorem dL_isAhead_111 : decode cL_isAhead 111 = .ok (.iload_n 1, 1) := by decide +kernel
theorem dL_isAhead_112 : decode cL_isAhead 112 = .ok (.iload_n 2, 1) := by decide +kernel
theorem dL_isAhead_113 : decode cL_isAhead 113 = .ok (.iload 7, 2) := by decide +kernel
theorem dL_isAhead_115 : decode cL_isAhead 115 = .ok (.iload 8, 2) := by decide +kernel
theorem dL_isAhead_117 : decode cL_isAhead 117 = .ok (.iconst 2, 1) := by decide +kernel
theorem dL_isAhead_118 : decode cL_isAhead 118 = .ok (.invokevirtual 58, 3) := by decide +kernel
theorem dL_isAhead_121 : decode cL_isAhead 121 = .ok (.istore 12, 2) := by decide +kernel
theorem dL_isAhead_123 : decode cL_isAhead 123 = .ok (.aload_n 0, 1) := by decide +kernel
theorem dL_isAhead_124 : decode cL_isAhead 124 = .ok (.iload_n 1, 1) := by decide +kernel
theorem dL_isAhead_125 : decode cL_isAhead 125 = .ok (.iload_n 2, 1) := by decide +kernel
theorem dL_isAhead_126 : decode cL_isAhead 126 = .ok (.iload 7, 2) := by decide +kernel
theorem dL_isAhead_128 : decode cL_isAhead 128 = .ok (.iload 8, 2) := by decide +kernel
theorem dL_isAhead_130 : decode cL_isAhead 130 = .ok (.iconst 3, 1) := by decide +kernel
theorem dL_isAhead_131 : decode cL_isAhead 131 = .ok (.invokevirtual 58, 3) := by decide +kernel
theorem dL_isAhead_134 : decode cL_isAhead 134 = .ok (.istore 13, 2) := by decide +kernel
theorem dL_isAhead_136 : decode cL_isAhead 136 = .ok (.aload_n 0, 1) := by decide +kernel
theorem dL_isAhead_137 : decode cL_isAhead 137 = .ok (.iload_n 1, 1) := by decide +kernel
theorem dL_isAhead_138 : decode cL_isAhead 138 = .ok (.iload_n 2, 1) := by decide +kernel
theorem dL_isAhead_139 : decode cL_isAhead 139 = .ok (.iload 7, 2) := by decide +kernel
theorem dL_isAhead_141 : decode cL_isAhead 141 = .ok (.iload 8, 2) := by decide +kernel
theorem dL_isAhead_143 : decode cL_isAhead 143 = .ok (.iconst 4, 1) := by decide +kernel
theorem dL_isAhead_144 : decode cL_isAhead 144 = .ok (.invokevirtual 58, 3) := by decide +kernel
theorem dL_isAhead_147 : decode cL_isAhead 147 = .ok (.istore 14, 2) := by decide +kernel
theorem dL_isAhead_149 : decode cL_isAhead 149 = .ok (.aload_n 0, 1) := by decide +kernel
theorem dL_isAhead_150 : decode cL_isAhead 150 = .ok (.iconst 5, 1) := by decide +kernel
theorem dL_isAhead_151 : decode cL_isAhead 151 = .ok (.invokevirtual 13, 3) := by decide +kernel
theorem dL_isAhead_154 : decode cL_isAhead 154 = .ok (.istore 15, 2) := by decide +kernel
theorem dL_isAhead_156 : decode cL_isAhead 156 = .ok (.aload_n 0, 1) := by decide +kernel
theorem dL_isAhead_157 : decode cL_isAhead 157 = .ok (.bipush 6, 2) := by decide +kernel
theorem dL_isAhead_159 : decode cL_isAhead 159 = .ok (.invokevirtual 13, 3) := by decide +kernel
theorem dL_isAhead_162 : decode cL_isAhead 162 = .ok (.istore 16, 2) := by decide +kernel
theorem dL_isAhead_164 : decode cL_isAhead 164 = .ok (.iload 11, 2) := by decide +kernel
theorem dL_isAhead_166 : decode cL_isAhead 166 = .ok (.aload_n 0, 1) := by decide +kernel
theorem dL_isAhead_167 : decode cL_isAhead 167 = .ok (.iconst 0, 1) := by decide +kernel
theorem dL_isAhead_168 : decode cL_isAhead 168 = .ok (.iload 10, 2) := by decide +kernel
theorem dL_isAhead_170 : decode cL_isAhead 170 = .ok (.iconst 4, 1) := by decide +kernel
theorem dL_isAhead_171 : decode cL_isAhead 171 = .ok (.invokevirtual 23, 3) := by decide +kernel
theorem dL_isAhead_174 : decode cL_isAhead 174 = .ok (.iconst 4, 1) := by decide +kernel
theorem dL_isAhead_175 : decode cL_isAhead 175 = .ok (.if_icmp .ne 7, 3) := by decide +kernel
theorem dL_isAhead_178 : decode cL_isAhead 178 = .ok (.iconst 1, 1) := by decide +kernel
theorem dL_isAhead_179 : decode cL_isAhead 179 = .ok (.goto 4, 3) := by decide +kernel
theorem dL_isAhead_182 : decode cL_isAhead 182 = .ok (.iconst 0, 1) := by decide +kernel
theorem dL_isAhead_183 : decode cL_isAhead 183 = .ok (.if_icmp .ne 101, 3) := by decide +kernel
theorem dL_isAhead_186 : decode cL_isAhead 186 = .ok (.aload_n 0, 1) := by decide +kernel
theorem dL_isAhead_187 : decode cL_isAhead 187 = .ok (.iload 9, 2) := by decide +kernel
theorem dL_isAhead_189 : decode cL_isAhead 189 = .ok (.iload_n 1, 1) := by decide +kernel
theorem dL_isAhead_190 : decode cL_isAhead 190 = .ok (.iload_n 2, 1) := by decide +kernel
theorem dL_isAhead_191 : decode cL_isAhead 191 = .ok (.iload 7, 2) := by decide +kernel
theorem dL_isAhead_193 : decode cL_isAhead 193 = .ok (.iload 8, 2) := by decide +kernel
theorem dL_isAhead_195 : decode cL_isAhead 195 = .ok (.invokevirtual 36, 3) := by decide +kernel
theorem dL_isAhead_198 : decode cL_isAhead 198 = .ok (.iload 13, 2) := by decide +kernel
theorem dL_isAhead_200 : decode cL_isAhead 200 = .ok (.if_icmp .ne 84, 3) := by decide +kernel
theorem dL_isAhead_203 : decode cL_isAhead 203 = .ok (.aload_n 0, 1) := by decide +kernel
theorem dL_isAhead_204 : decode cL_isAhead 204 = .ok (.iconst 1, 1) := by decide +kernel
theorem dL_isAhead_205 : decode cL_isAhead 205 = .ok (.invokevirtual 13, 3) := by decide +kernel
theorem dL_isAhead_208 : decode cL_isAhead 208 = .ok (.iload 13, 2) := by decide +kernel
theorem dL_isAhead_210 : decode cL_isAhead 210 = .ok (.if_icmp .ne 74, 3) := by decide +kernel
theorem dL_isAhead_213 : decode cL_isAhead 213 = .ok (.aload_n 0, 1) := by decide +kernel
theorem dL_isAhead_214 : decode cL_isAhead 214 = .ok (.iconst 4, 1) := by decide +kernel
theorem dL_isAhead_215 : decode cL_isAhead 215 = .ok (.invokevirtual 13, 3) := by decide +kernel
theorem dL_isAhead_218 : decode cL_isAhead 218 = .ok (.iload 12, 2) := by decide +kernel
theorem dL_isAhead_220 : decode cL_isAhead 220 = .ok (.if_icmp .ne 64, 3) := by decide +kernel
theorem dL_isAhead_223 : decode cL_isAhead 223 = .ok (.aload_n 0, 1) := by decide +kernel
theorem dL_isAhead_224 : decode cL_isAhead 224 = .ok (.iconst 5, 1) := by decide +kernel
theorem dL_isAhead_225 : decode cL_isAhead 225 = .ok (.invokevirtual 13, 3) := by decide +kernel
theorem dL_isAhead_228 : decode cL_isAhead 228 = .ok (.iload 15, 2) := by decide +kernel
theorem dL_isAhead_230 : decode cL_isAhead 230 = .ok (.iload 12, 2) := by decide +kernel
theorem dL_isAhead_232 : decode cL_isAhead 232 = .ok (.iadd, 1) := by decide +kernel
theorem dL_isAhead_233 : decode cL_isAhead 233 = .ok (.if_icmp .ne 51, 3) := by decide +kernel
theorem dL_isAhead_236 : decode cL_isAhead 236 = .ok (.aload_n 0, 1) := by decide +kernel
theorem dL_isAhead_237 : decode cL_isAhead 237 = .ok (.iconst 0, 1) := by decide +kernel
theorem dL_isAhead_238 : decode cL_isAhead 238 = .ok (.invokevirtual 27, 3) := by decide +kernel
theorem dL_isAhead_241 : decode cL_isAhead 241 = .ok (.iload 14, 2) := by decide +kernel
theorem dL_isAhead_243 : decode cL_isAhead 243 = .ok (.if_icmp .ne 41, 3) := by decide +kernel
theorem dL_isAhead_246 : decode cL_isAhead 246 = .ok (.iload 11, 2) := by decide +kernel
theorem dL_isAhead_248 : decode cL_isAhead 248 = .ok (.iconst 1, 1) := by decide +kernel
theorem dL_isAhead_249 : decode cL_isAhead 249 = .ok (.if_icmp .eq 31, 3) := by decide +kernel
theorem dL_isAhead_252 : decode cL_isAhead 252 = .ok (.iload 12, 2) := by decide +kernel
theorem dL_isAhead_254 : decode cL_isAhead 254 = .ok (.ifCond .ne 30, 3) := by decide +kernel
theorem dL_isAhead_257 : decode cL_isAhead 257 = .ok (.aload_n 0, 1) := by decide +kernel
theorem dL_isAhead_258 : decode cL_isAhead 258 = .ok (.bipush 6, 2) := by decide +kernel
theorem dL_isAhead_260 : decode cL_isAhead 260 = .ok (.invokevirtual 13, 3) := by decide +kernel
theorem dL_isAhead_263 : decode cL_isAhead 263 = .ok (.iload 16, 2) := by decide +kernel
theorem dL_isAhead_265 : decode cL_isAhead 265 = .ok (.if_icmp .ne 19, 3) := by decide +kernel
theorem dL_isAhead_268 : decode cL_isAhead 268 = .ok (.aload_n 0, 1) := by decide +kernel
theorem dL_isAhead_269 : decode cL_isAhead 269 = .ok (.iload 9, 2) := by decide +kernel
theorem dL_isAhead_271 : decode cL_isAhead 271 = .ok (.iconst 4, 1) := by decide +kernel
theorem dL_isAhead_272 : decode cL_isAhead 272 = .ok (.invokevirtual 19, 3) := by decide +kernel
theorem dL_isAhead_275 : decode cL_isAhead 275 = .ok (.iload 10, 2) := by decide +kernel
theorem dL_isAhead_277 : decode cL_isAhead 277 = .ok (.if_icmp .ne 7, 3) := by decide +kernel
theorem dL_isAhead_280 : decode cL_isAhead 280 = .ok (.iconst 1, 1) := by decide +kernel
theorem dL_isAhead_281 : decode cL_isAhead 281 = .ok (.goto 4, 3) := by decide +kernel
theorem dL_isAhead_284 : decode cL_isAhead 284 = .ok (.iconst 0, 1) := by decide +kernel
theorem dL_isAhead_285 : decode cL_isAhead 285 = .ok (.istore 17, 2) := by decide +kernel
theorem dL_isAhead_287 : decode cL_isAhead 287 = .ok (.iconst 0, 1) := by decide +kernel
theorem dL_isAhead_288 : decode cL_isAhead 288 = .ok (.istore 18, 2) := by decide +kernel
theorem dL_isAhead_290 : decode cL_isAhead 290 = .ok (.iload 18, 2) := by decide +kernel
theorem dL_isAhead_292 : decode cL_isAhead 292 = .ok (.iload 12, 2) := by decide +kernel
theorem dL_isAhead_294 : decode cL_isAhead 294 = .ok (.if_icmp .ge 101, 3) := by decide +kernel
theorem dL_isAhead_297 : decode cL_isAhead 297 = .ok (.iload 17, 2) := by decide +kernel
theorem dL_isAhead_299 : decode cL_isAhead 299 = .ok (.ifCond .eq 96, 3) := by decide +kernel
theorem dL_isAhead_302 : decode cL_isAhead 302 = .ok (.aload_n 0, 1) := by decide +kernel
theorem dL_isAhead_303 : decode cL_isAhead 303 = .ok (.iload 18, 2) := by decide +kernel
theorem dL_isAhead_305 : decode cL_isAhead 305 = .ok (.iconst 0, 1) := by decide +kernel
theorem dL_isAhead_306 : decode cL_isAhead 306 = .ok (.invokevirtual 48, 3) := by decide +kernel
theorem dL_isAhead_309 : decode cL_isAhead 309 = .ok (.ifCond .lt 32, 3) := by decide +kernel
theorem dL_isAhead_312 : decode cL_isAhead 312 = .ok (.aload_n 0, 1) := by decide +kernel
theorem dL_isAhead_313 : decode cL_isAhead 313 = .ok (.iload 18, 2) := by decide +kernel
theorem dL_isAhead_315 : decode cL_isAhead 315 = .ok (.iconst 0, 1) := by decide +kernel
theorem dL_isAhead_316 : decode cL_isAhead 316 = .ok (.invokevirtual 48, 3) := by decide +kernel
theorem dL_isAhead_319 : decode cL_isAhead 319 = .ok (.iload 13, 2) := by decide +kernel
theorem dL_isAhead_321 : decode cL_isAhead 321 = .ok (.iconst 1, 1) := by decide +kernel
theorem dL_isAhead_322 : decode cL_isAhead 322 = .ok (.isub, 1) := by decide +kernel
theorem dL_isAhead_323 : decode cL_isAhead 323 = .ok (.if_icmp .ge 18, 3) := by decide +kernel
theorem dL_isAhead_326 : decode cL_isAhead 326 = .ok (.aload_n 0, 1) := by decide +kernel
theorem dL_isAhead_327 : decode cL_isAhead 327 = .ok (.iload 18, 2) := by decide +kernel
theorem dL_isAhead_329 : decode cL_isAhead 329 = .ok (.iconst 1, 1) := by decide +kernel
theorem dL_isAhead_330 : decode cL_isAhead 330 = .ok (.invokevirtual 48, 3) := by decide +kernel
theorem dL_isAhead_333 : decode cL_isAhead 333 = .ok (.iconst 2, 1) := by decide +kernel
theorem dL_isAhead_334 : decode cL_isAhead 334 = .ok (.if_icmp .lt 7, 3) := by decide +kernel
theorem dL_isAhead_337 : decode cL_isAhead 337 = .ok (.iconst 1, 1) := by decide +kernel
theorem dL_isAhead_338 : decode cL_isAhead 338 = .ok (.goto 4, 3) := by decide +kernel
theorem dL_isAhead_341 : decode cL_isAhead 341 = .ok (.iconst 0, 1) := by decide +kernel
theorem dL_isAhead_342 : decode cL_isAhead 342 = .ok (.istore 17, 2) := by decide +kernel
theorem dL_isAhead_344 : decode cL_isAhead 344 = .ok (.iconst 0, 1) := by decide +kernel
theorem dL_isAhead_345 : decode cL_isAhead 345 = .ok (.istore 19, 2) := by decide +kernel
theorem dL_isAhead_347 : decode cL_isAhead 347 = .ok (.iload 19, 2) := by decide +kernel
theorem dL_isAhead_349 : decode cL_isAhead 349 = .ok (.iload 18, 2) := by decide +kernel
theorem dL_isAhead_351 : decode cL_isAhead 351 = .ok (.if_icmp .ge 38, 3) := by decide +kernel
theorem dL_isAhead_354 : decode cL_isAhead 354 = .ok (.iload 17, 2) := by decide +kernel
theorem dL_isAhead_356 : decode cL_isAhead 356 = .ok (.ifCond .eq 24, 3) := by decide +kernel
theorem dL_isAhead_359 : decode cL_isAhead 359 = .ok (.aload_n 0, 1) := by decide +kernel
theorem dL_isAhead_360 : decode cL_isAhead 360 = .ok (.iload 19, 2) := by decide +kernel
theorem dL_isAhead_362 : decode cL_isAhead 362 = .ok (.iconst 0, 1) := by decide +kernel
theorem dL_isAhead_363 : decode cL_isAhead 363 = .ok (.invokevirtual 48, 3) := by decide +kernel
theorem dL_isAhead_366 : decode cL_isAhead 366 = .ok (.aload_n 0, 1) := by decide +kernel
theorem dL_isAhead_367 : decode cL_isAhead 367 = .ok (.iload 18, 2) := by decide +kernel
theorem dL_isAhead_369 : decode cL_isAhead 369 = .ok (.iconst 0, 1) := by decide +kernel
theorem dL_isAhead_370 : decode cL_isAhead 370 = .ok (.invokevirtual 48, 3) := by decide +kernel
theorem dL_isAhead_373 : decode cL_isAhead 373 = .ok (.if_icmp .eq 7, 3) := by decide +kernel
theorem dL_isAhead_376 : decode cL_isAhead 376 = .ok (.iconst 1, 1) := by decide +kernel
theorem dL_isAhead_377 : decode cL_isAhead 377 = .ok (.goto 4, 3) := by decide +kernel
theorem dL_isAhead_380 : decode cL_isAhead 380 = .ok (.iconst 0, 1) := by decide +kernel
theorem dL_isAhead_381 : decode cL_isAhead 381 = .ok (.istore 17, 2) := by decide +kernel
theorem dL_isAhead_383 : decode cL_isAhead 383 = .ok (.iinc 19 1, 3) := by decide +kernel
theorem dL_isAhead_386 : decode cL_isAhead 386 = .ok (.goto (-39), 3) := by decide +kernel
theorem dL_isAhead_389 : decode cL_isAhead 389 = .ok (.iinc 18 1, 3) := by decide +kernel
theorem dL_isAhead_392 : decode cL_isAhead 392 = .ok (.goto (-102), 3) := by decide +kernel
theorem dL_isAhead_395 : decode cL_isAhead 395 = .ok (.aload_n 0, 1) := by decide +kernel
theorem dL_isAhead_396 : decode cL_isAhead 396 = .ok (.iload 9, 2) := by decide +kernel
theorem dL_isAhead_398 : decode cL_isAhead 398 = .ok (.iconst 0, 1) := by decide +kernel
theorem dL_isAhead_399 : decode cL_isAhead 399 = .ok (.invokevirtual 61, 3) := by decide +kernel
theorem dL_isAhead_402 : decode cL_isAhead 402 = .ok (.istore 18, 2) := by decide +kernel
theorem dL_isAhead_404 : decode cL_isAhead 404 = .ok (.aload_n 0, 1) := by decide +kernel
theorem dL_isAhead_405 : decode cL_isAhead 405 = .ok (.iload 9, 2) := by decide +kernel
theorem dL_isAhead_407 : decode cL_isAhead 407 = .ok (.iconst 2, 1) := by decide +kernel
theorem dL_isAhead_408 : decode cL_isAhead 408 = .ok (.invokevirtual 61, 3) := by decide +kernel
theorem dL_isAhead_411 : decode cL_isAhead 411 = .ok (.istore 19, 2) := by decide +kernel
theorem dL_isAhead_413 : decode cL_isAhead 413 = .ok (.aload_n 0, 1) := by decide +kernel
theorem dL_isAhead_414 : decode cL_isAhead 414 = .ok (.iload 9, 2) := by decide +kernel
theorem dL_isAhead_416 : decode cL_isAhead 416 = .ok (.iconst 3, 1) := by decide +kernel
theorem dL_isAhead_417 : decode cL_isAhead 417 = .ok (.invokevirtual 61, 3) := by decide +kernel
theorem dL_isAhead_420 : decode cL_isAhead 420 = .ok (.istore 20, 2) := by decide +kernel
theorem dL_isAhead_422 : decode cL_isAhead 422 = .ok (.aload_n 0, 1) := by decide +kernel
theorem dL_isAhead_423 : decode cL_isAhead 423 = .ok (.iload 9, 2) := by decide +kernel
theorem dL_isAhead_425 : decode cL_isAhead 425 = .ok (.iconst 1, 1) := by decide +kernel
theorem dL_isAhead_426 : decode cL_isAhead 426 = .ok (.invokevirtual 61, 3) := by decide +kernel
theorem dL_isAhead_429 : decode cL_isAhead 429 = .ok (.istore 21, 2) := by decide +kernel
theorem dL_isAhead_431 : decode cL_isAhead 431 = .ok (.aload_n 0, 1) := by decide +kernel
theorem dL_isAhead_432 : decode cL_isAhead 432 = .ok (.bipush 7, 2) := by decide +kernel
theorem dL_isAhead_434 : decode cL_isAhead 434 = .ok (.invokevirtual 13, 3) := by decide +kernel
theorem dL_isAhead_437 : decode cL_isAhead 437 = .ok (.istore 22, 2) := by decide +kernel
theorem dL_isAhead_439 : decode cL_isAhead 439 = .ok (.iload 17, 2) := by decide +kernel
theorem dL_isAhead_441 : decode cL_isAhead 441 = .ok (.ifCond .eq 93, 3) := by decide +kernel
theorem dL_isAhead_444 : decode cL_isAhead 444 = .ok (.aload_n 0, 1) := by decide +kernel
theorem dL_isAhead_445 : decode cL_isAhead 445 = .ok (.iload 9, 2) := by decide +kernel
theorem dL_isAhead_447 : decode cL_isAhead 447 = .ok (.invokevirtual 41, 3) := by decide +kernel
theorem dL_isAhead_450 : decode cL_isAhead 450 = .ok (.iload 19, 2) := by decide +kernel
theorem dL_isAhead_452 : decode cL_isAhead 452 = .ok (.if_icmp .ne 82, 3) := by decide +kernel
theorem dL_isAhead_455 : decode cL_isAhead 455 = .ok (.aload_n 0, 1) := by decide +kernel
theorem dL_isAhead_456 : decode cL_isAhead 456 = .ok (.bipush 7, 2) := by decide +kernel
theorem dL_isAhead_458 : decode cL_isAhead 458 = .ok (.invokevirtual 13, 3) := by decide +kernel
theorem dL_isAhead_461 : decode cL_isAhead 461 = .ok (.iload 22, 2) := by decide +kernel
theorem dL_isAhead_463 : decode cL_isAhead 463 = .ok (.iload 18, 2) := by decide +kernel
theorem dL_isAhead_465 : decode cL_isAhead 465 = .ok (.iadd, 1) := by decide +kernel
theorem dL_isAhead_466 : decode cL_isAhead 466 = .ok (.if_icmp .ne 68, 3) := by decide +kernel
theorem dL_isAhead_469 : decode cL_isAhead 469 = .ok (.aload_n 0, 1) := by decide +kernel
theorem dL_isAhead_470 : decode cL_isAhead 470 = .ok (.iconst 4, 1) := by decide +kernel
theorem dL_isAhead_471 : decode cL_isAhead 471 = .ok (.invokevirtual 13, 3) := by decide +kernel
theorem dL_isAhead_474 : decode cL_isAhead 474 = .ok (.iload 21, 2) := by decide +kernel
theorem dL_isAhead_476 : decode cL_isAhead 476 = .ok (.if_icmp .ne 58, 3) := by decide +kernel
theorem dL_isAhead_479 : decode cL_isAhead 479 = .ok (.aload_n 0, 1) := by decide +kernel
theorem dL_isAhead_480 : decode cL_isAhead 480 = .ok (.iconst 0, 1) := by decide +kernel
theorem dL_isAhead_481 : decode cL_isAhead 481 = .ok (.invokevirtual 27, 3) := by decide +kernel
theorem dL_isAhead_484 : decode cL_isAhead 484 = .ok (.iload 20, 2) := by decide +kernel
theorem dL_isAhead_486 : decode cL_isAhead 486 = .ok (.if_icmp .ne 48, 3) := by decide +kernel
theorem dL_isAhead_489 : decode cL_isAhead 489 = .ok (.aload_n 0, 1) := by decide +kernel
theorem dL_isAhead_490 : decode cL_isAhead 490 = .ok (.invokestatic 77, 3) := by decide +kernel
theorem dL_isAhead_493 : decode cL_isAhead 493 = .ok (.ifCond .eq 41, 3) := by decide +kernel
theorem dL_isAhead_496 : decode cL_isAhead 496 = .ok (.aload_n 0, 1) := by decide +kernel
theorem dL_isAhead_497 : decode cL_isAhead 497 = .ok (.invokevirtual 81, 3) := by decide +kernel
theorem dL_isAhead_500 : decode cL_isAhead 500 = .ok (.ifCond .lt 34, 3) := by decide +kernel
theorem dL_isAhead_503 : decode cL_isAhead 503 = .ok (.aload_n 0, 1) := by decide +kernel
theorem dL_isAhead_504 : decode cL_isAhead 504 = .ok (.invokevirtual 81, 3) := by decide +kernel
theorem dL_isAhead_507 : decode cL_isAhead 507 = .ok (.ifCond .lt 27, 3) := by decide +kernel
theorem dL_isAhead_510 : decode cL_isAhead 510 = .ok (.aload_n 0, 1) := by decide +kernel
theorem dL_isAhead_511 : decode cL_isAhead 511 = .ok (.invokestatic 30, 3) := by decide +kernel
theorem dL_isAhead_514 : decode cL_isAhead 514 = .ok (.lload 5, 2) := by decide +kernel
theorem dL_isAhead_516 : decode cL_isAhead 516 = .ok (.lcmp, 1) := by decide +kernel
theorem dL_isAhead_517 : decode cL_isAhead 517 = .ok (.ifCond .ne 17, 3) := by decide +kernel
theorem dL_isAhead_520 : decode cL_isAhead 520 = .ok (.aload_n 0, 1) := by decide +kernel
theorem dL_isAhead_521 : decode cL_isAhead 521 = .ok (.iconst 4, 1) := by decide +kernel
theorem dL_isAhead_522 : decode cL_isAhead 522 = .ok (.invokevirtual 13, 3) := by decide +kernel
theorem dL_isAhead_525 : decode cL_isAhead 525 = .ok (.iload 21, 2) := by decide +kernel
theorem dL_isAhead_527 : decode cL_isAhead 527 = .ok (.if_icmp .ne 7, 3) := by decide +kernel
theorem dL_isAhead_530 : decode cL_isAhead 530 = .ok (.iconst 1, 1) := by decide +kernel
theorem dL_isAhead_531 : decode cL_isAhead 531 = .ok (.goto 4, 3) := by decide +kernel
theorem dL_isAhead_534 : decode cL_isAhead 534 = .ok (.iconst 0, 1) := by decide +kernel
theorem dL_isAhead_535 : decode cL_isAhead 535 = .ok (.ireturn, 1) := by decide +kernel
theorem dL_types_0 : decode cL_types 0 = .ok (.aload_n 0, 1) := by decide +kernel
theorem dL_types_1 : decode cL_types 1 = .ok (.bipush 9, 2) := by decide +kernel
theorem dL_types_3 : decode cL_types 3 = .ok (.invokevirtual 13, 3) := by decide +kernel
theorem dL_types_6 : decode cL_types 6 = .ok (.istore_n 2, 1) := by decide +kernel
theorem dL_types_7 : decode cL_types 7 = .ok (.iload_n 1, 1) := by decide +kernel
theorem dL_types_8 : decode cL_types 8 = .ok (.bipush 10, 2) := by decide +kernel
theorem dL_types_10 : decode cL_types 10 = .ok (.if_icmp .lt 21, 3) := by decide +kernel
theorem dL_types_13 : decode cL_types 13 = .ok (.aload_n 0, 1) := by decide +kernel
theorem dL_types_14 : decode cL_types 14 = .ok (.bipush 48, 2) := by decide +kernel
theorem dL_types_16 : decode cL_types 16 = .ok (.iload_n 1, 1) := by decide +kernel
theorem dL_types_17 : decode cL_types 17 = .ok (.bipush 10, 2) := by decide +kernel
theorem dL_types_19 : decode cL_types 19 = .ok (.idiv, 1) := by decide +kernel
theorem dL_types_20 : decode cL_types 20 = .ok (.iadd, 1) := by decide +kernel
theorem dL_types_21 : decode cL_types 21 = .ok (.invokevirtual 64, 3) := by decide +kernel
theorem dL_types_24 : decode cL_types 24 = .ok (.iinc 2 1, 3) := by decide +kernel
theorem dL_types_27 : decode cL_types 27 = .ok (.iload_n 2, 1) := by decide +kernel
theorem dL_types_28 : decode cL_types 28 = .ok (.if_icmp .ne 25, 3) := by decide +kernel
theorem dL_types_31 : decode cL_types 31 = .ok (.aload_n 0, 1) := by decide +kernel
theorem dL_types_32 : decode cL_types 32 = .ok (.bipush 48, 2) := by decide +kernel
theorem dL_types_34 : decode cL_types 34 = .ok (.iload_n 1, 1) := by decide +kernel
theorem dL_types_35 : decode cL_types 35 = .ok (.bipush 10, 2) := by decide +kernel
theorem dL_types_37 : decode cL_types 37 = .ok (.irem, 1) := by decide +kernel
theorem dL_types_38 : decode cL_types 38 = .ok (.iadd, 1) := by decide +kernel
theorem dL_types_39 : decode cL_types 39 = .ok (.invokevirtual 64, 3) := by decide +kernel
theorem dL_types_42 : decode cL_types 42 = .ok (.iinc 2 1, 3) := by decide +kernel
theorem dL_types_45 : decode cL_types 45 = .ok (.iload_n 2, 1) := by decide +kernel
theorem dL_types_46 : decode cL_types 46 = .ok (.if_icmp .ne 7, 3) := by decide +kernel
theorem dL_types_49 : decode cL_types 49 = .ok (.iconst 1, 1) := by decide +kernel
theorem dL_types_50 : decode cL_types 50 = .ok (.goto 4, 3) := by decide +kernel
theorem dL_types_53 : decode cL_types 53 = .ok (.iconst 0, 1) := by decide +kernel
theorem dL_types_54 : decode cL_types 54 = .ok (.ireturn, 1) := by decide +kernel
theorem dL_law_0 : decode cL_law 0 = .ok (.new 14, 3) := by decide +kernel
theorem dL_law_3 : decode cL_law 3 = .ok (.dup, 1) := by decide +kernel
theorem dL_law_4 : decode cL_law 4 = .ok (.invokespecial 85, 3) := by decide +kernel
theorem dL_law_7 : decode cL_law 7 = .ok (.astore_n 1, 1) := by decide +kernel
theorem dL_law_8 : decode cL_law 8 = .ok (.aload_n 1, 1) := by decide +kernel
theorem dL_law_9 : decode cL_law 9 = .ok (.invokevirtual 81, 3) := by decide +kernel
theorem dL_law_12 : decode cL_law 12 = .ok (.ldc 70, 2) := by decide +kernel
theorem dL_law_14 : decode cL_law 14 = .ok (.if_icmp .ne 92, 3) := by decide +kernel
theorem dL_law_17 : decode cL_law 17 = .ok (.aload_n 1, 1) := by decide +kernel
theorem dL_law_18 : decode cL_law 18 = .ok (.iconst 1, 1) := by decide +kernel
theorem dL_law_19 : decode cL_law 19 = .ok (.invokevirtual 13, 3) := by decide +kernel
theorem dL_law_22 : decode cL_law 22 = .ok (.iconst 1, 1) := by decide +kernel
theorem dL_law_23 : decode cL_law 23 = .ok (.if_icmp .ne 83, 3) := by decide +kernel
theorem dL_law_26 : decode cL_law 26 = .ok (.aload_n 1, 1) := by decide +kernel
theorem dL_law_27 : decode cL_law 27 = .ok (.iconst 2, 1) := by decide +kernel
theorem dL_law_28 : decode cL_law 28 = .ok (.invokevirtual 13, 3) := by decide +kernel
theorem dL_law_31 : decode cL_law 31 = .ok (.iconst 1, 1) := by decide +kernel
theorem dL_law_32 : decode cL_law 32 = .ok (.if_icmp .ne 74, 3) := by decide +kernel
theorem dL_law_35 : decode cL_law 35 = .ok (.aload_n 1, 1) := by decide +kernel
theorem dL_law_36 : decode cL_law 36 = .ok (.iconst 0, 1) := by decide +kernel
theorem dL_law_37 : decode cL_law 37 = .ok (.iconst 0, 1) := by decide +kernel
theorem dL_law_38 : decode cL_law 38 = .ok (.iconst 4, 1) := by decide +kernel
theorem dL_law_39 : decode cL_law 39 = .ok (.invokevirtual 23, 3) := by decide +kernel
theorem dL_law_42 : decode cL_law 42 = .ok (.ifCond .ne 64, 3) := by decide +kernel
theorem dL_law_45 : decode cL_law 45 = .ok (.aload_n 1, 1) := by decide +kernel
theorem dL_law_46 : decode cL_law 46 = .ok (.iconst 0, 1) := by decide +kernel
theorem dL_law_47 : decode cL_law 47 = .ok (.iconst 0, 1) := by decide +kernel
theorem dL_law_48 : decode cL_law 48 = .ok (.iconst 5, 1) := by decide +kernel
theorem dL_law_49 : decode cL_law 49 = .ok (.invokevirtual 23, 3) := by decide +kernel
theorem dL_law_52 : decode cL_law 52 = .ok (.ifCond .ne 54, 3) := by decide +kernel
theorem dL_law_55 : decode cL_law 55 = .ok (.aload_n 1, 1) := by decide +kernel
theorem dL_law_56 : decode cL_law 56 = .ok (.iconst 0, 1) := by decide +kernel
theorem dL_law_57 : decode cL_law 57 = .ok (.iconst 0, 1) := by decide +kernel
theorem dL_law_58 : decode cL_law 58 = .ok (.bipush 99, 2) := by decide +kernel
theorem dL_law_60 : decode cL_law 60 = .ok (.bipush 99, 2) := by decide +kernel
theorem dL_law_62 : decode cL_law 62 = .ok (.iconst 1, 1) := by decide +kernel
theorem dL_law_63 : decode cL_law 63 = .ok (.invokevirtual 51, 3) := by decide +kernel
theorem dL_law_66 : decode cL_law 66 = .ok (.ifCond .ne 40, 3) := by decide +kernel
theorem dL_law_69 : decode cL_law 69 = .ok (.aload_n 1, 1) := by decide +kernel
theorem dL_law_70 : decode cL_law 70 = .ok (.iconst 0, 1) := by decide +kernel
theorem dL_law_71 : decode cL_law 71 = .ok (.invokevirtual 67, 3) := by decide +kernel
theorem dL_law_74 : decode cL_law 74 = .ok (.ldc 44, 2) := by decide +kernel
theorem dL_law_76 : decode cL_law 76 = .ok (.if_icmp .ne 30, 3) := by decide +kernel
theorem dL_law_79 : decode cL_law 79 = .ok (.aload_n 1, 1) := by decide +kernel
theorem dL_law_80 : decode cL_law 80 = .ok (.invokevirtual 86, 3) := by decide +kernel
theorem dL_law_83 : decode cL_law 83 = .ok (.ifCond .ne 23, 3) := by decide +kernel
theorem dL_law_86 : decode cL_law 86 = .ok (.aload_n 1, 1) := by decide +kernel
theorem dL_law_87 : decode cL_law 87 = .ok (.invokevirtual 81, 3) := by decide +kernel
theorem dL_law_90 : decode cL_law 90 = .ok (.ifCond .ne 16, 3) := by decide +kernel
theorem dL_law_93 : decode cL_law 93 = .ok (.aload_n 1, 1) := by decide +kernel
theorem dL_law_94 : decode cL_law 94 = .ok (.bipush 7, 2) := by decide +kernel
theorem dL_law_96 : decode cL_law 96 = .ok (.invokestatic 89, 3) := by decide +kernel
theorem dL_law_99 : decode cL_law 99 = .ok (.ifCond .eq 7, 3) := by decide +kernel
theorem dL_law_102 : decode cL_law 102 = .ok (.iconst 1, 1) := by decide +kernel
theorem dL_law_103 : decode cL_law 103 = .ok (.goto 4, 3) := by decide +kernel
theorem dL_law_106 : decode cL_law 106 = .ok (.iconst 0, 1) := by decide +kernel
theorem dL_law_107 : decode cL_law 107 = .ok (.istore_n 2, 1) := by decide +kernel
theorem dL_law_108 : decode cL_law 108 = .ok (.iconst 0, 1) := by decide +kernel
theorem dL_law_109 : decode cL_law 109 = .ok (.istore_n 3, 1) := by decide +kernel
theorem dL_law_110 : decode cL_law 110 = .ok (.iload_n 3, 1) := by decide +kernel
theorem dL_law_111 : decode cL_law 111 = .ok (.bipush 30, 2) := by decide +kernel
theorem dL_law_113 : decode cL_law 113 = .ok (.if_icmp .ge 785, 3) := by decide +kernel
theorem dL_law_116 : decode cL_law 116 = .ok (.iload_n 2, 1) := by decide +kernel
theorem dL_law_117 : decode cL_law 117 = .ok (.ifCond .eq 781, 3) := by decide +kernel
theorem dL_law_120 : decode cL_law 120 = .ok (.aload_n 0, 1) := by decide +kernel
theorem dL_law_121 : decode cL_law 121 = .ok (.iload_n 3, 1) := by decide +kernel
theorem dL_law_122 : decode cL_law 122 = .ok (.invokestatic 93, 3) := by decide +kernel
theorem dL_law_125 : decode cL_law 125 = .ok (.istore 4, 2) := by decide +kernel
theorem dL_law_127 : decode cL_law 127 = .ok (.iload 4, 2) := by decide +kernel
theorem dL_law_129 : decode cL_law 129 = .ok (.iconst 3, 1) := by decide +kernel
theorem dL_law_130 : decode cL_law 130 = .ok (.ishr, 1) := by decide +kernel
theorem dL_law_131 : decode cL_law 131 = .ok (.bipush 90, 2) := by decide +kernel
theorem dL_law_133 : decode cL_law 133 = .ok (.invokestatic 97, 3) := by decide +kernel
theorem dL_law_136 : decode cL_law 136 = .ok (.istore 5, 2) := by decide +kernel
theorem dL_law_138 : decode cL_law 138 = .ok (.iload 4, 2) := by decide +kernel
theorem dL_law_140 : decode cL_law 140 = .ok (.bipush 10, 2) := by decide +kernel
theorem dL_law_142 : decode cL_law 142 = .ok (.ishr, 1) := by decide +kernel
theorem dL_law_143 : decode cL_law 143 = .ok (.bipush 90, 2) := by decide +kernel
theorem dL_law_145 : decode cL_law 145 = .ok (.invokestatic 97, 3) := by decide +kernel
theorem dL_law_148 : decode cL_law 148 = .ok (.istore 6, 2) := by decide +kernel
theorem dL_law_150 : decode cL_law 150 = .ok (.iload 4, 2) := by decide +kernel
theorem dL_law_152 : decode cL_law 152 = .ok (.bipush 17, 2) := by decide +kernel
theorem dL_law_154 : decode cL_law 154 = .ok (.ishr, 1) := by decide +kernel
theorem dL_law_155 : decode cL_law 155 = .ok (.bipush 12, 2) := by decide +kernel
theorem dL_law_157 : decode cL_law 157 = .ok (.invokestatic 97, 3) := by decide +kernel
theorem dL_law_160 : decode cL_law 160 = .ok (.istore 7, 2) := by decide +kernel
theorem dL_law_162 : decode cL_law 162 = .ok (.iload 4, 2) := by decide +kernel
theorem dL_law_164 : decode cL_law 164 = .ok (.bipush 21, 2) := by decide +kernel
theorem dL_law_166 : decode cL_law 166 = .ok (.ishr, 1) := by decide +kernel
theorem dL_law_167 : decode cL_law 167 = .ok (.bipush 12, 2) := by decide +kernel
theorem dL_law_169 : decode cL_law 169 = .ok (.invokestatic 97, 3) := by decide +kernel
theorem dL_law_172 : decode cL_law 172 = .ok (.istore 8, 2) := by decide +kernel
theorem dL_law_174 : decode cL_law 174 = .ok (.iload 4, 2) := by decide +kernel
theorem dL_law_176 : decode cL_law 176 = .ok (.iconst 5, 1) := by decide +kernel
theorem dL_law_177 : decode cL_law 177 = .ok (.ishr, 1) := by decide +kernel
theorem dL_law_178 : decode cL_law 178 = .ok (.bipush 31, 2) := by decide +kernel
theorem dL_law_180 : decode cL_law 180 = .ok (.invokestatic 97, 3) := by decide +kernel
theorem dL_law_183 : decode cL_law 183 = .ok (.istore 9, 2) := by decide +kernel
theorem dL_law_185 : decode cL_law 185 = .ok (.aload_n 1, 1) := by decide +kernel
theorem dL_law_186 : decode cL_law 186 = .ok (.iconst 0, 1) := by decide +kernel
theorem dL_law_187 : decode cL_law 187 = .ok (.invokevirtual 13, 3) := by decide +kernel
theorem dL_law_190 : decode cL_law 190 = .ok (.istore 10, 2) := by decide +kernel
theorem dL_law_192 : decode cL_law 192 = .ok (.aload_n 1, 1) := by decide +kernel
theorem dL_law_193 : decode cL_law 193 = .ok (.iload 9, 2) := by decide +kernel
theorem dL_law_195 : decode cL_law 195 = .ok (.iconst 0, 1) := by decide +kernel
theorem dL_law_196 : decode cL_law 196 = .ok (.invokevirtual 19, 3) := by decide +kernel
theorem dL_law_199 : decode cL_law 199 = .ok (.ldc 44, 2) := by decide +kernel
theorem dL_law_201 : decode cL_law 201 = .ok (.if_icmp .eq 7, 3) := by decide +kernel
theorem dL_law_204 : decode cL_law 204 = .ok (.iconst 1, 1) := by decide +kernel
theorem dL_law_205 : decode cL_law 205 = .ok (.goto 4, 3) := by decide +kernel
theorem dL_law_208 : decode cL_law 208 = .ok (.iconst 0, 1) := by decide +kernel
theorem dL_law_209 : decode cL_law 209 = .ok (.istore 11, 2) := by decide +kernel
theorem dL_law_211 : decode cL_law 211 = .ok (.iconst 0, 1) := by decide +kernel
theorem dL_law_212 : decode cL_law 212 = .ok (.istore 12, 2) := by decide +kernel
theorem dL_law_214 : decode cL_law 214 = .ok (.iload_n 3, 1) := by decide +kernel
theorem dL_law_215 : decode cL_law 215 = .ok (.bipush 8, 2) := by decide +kernel
theorem dL_law_217 : decode cL_law 217 = .ok (.if_icmp .ge 7, 3) := by decide +kernel
theorem dL_law_220 : decode cL_law 220 = .ok (.iconst 0, 1) := by decide +kernel
theorem dL_law_221 : decode cL_law 221 = .ok (.goto 10, 3) := by decide +kernel
theorem dL_law_224 : decode cL_law 224 = .ok (.iload 4, 2) := by decide +kernel
theorem dL_law_226 : decode cL_law 226 = .ok (.bipush 16, 2) := by decide +kernel
theorem dL_law_228 : decode cL_law 228 = .ok (.invokestatic 97, 3) := by decide +kernel
theorem dL_law_231 : decode cL_law 231 = .ok (.tableswitch 521 0 13 #[69, 69, 69, 69, 69, 69, 69, 69, 184, 184, 184, 184, 255, 255], 69) := by decide +kernel
theorem dL_law_300 : decode cL_law 300 = .ok (.aload_n 1, 1) := by decide +kernel
theorem dL_law_301 : decode cL_law 301 = .ok (.iload 9, 2) := by decide +kernel
theorem dL_law_303 : decode cL_law 303 = .ok (.iload 5, 2) := by decide +kernel
theorem dL_law_305 : decode cL_law 305 = .ok (.iload 6, 2) := by decide +kernel
theorem dL_law_307 : decode cL_law 307 = .ok (.bipush 99, 2) := by decide +kernel
theorem dL_law_309 : decode cL_law 309 = .ok (.iload 5, 2) := by decide +kernel
theorem dL_law_311 : decode cL_law 311 = .ok (.iload 7, 2) := by decide +kernel
theorem dL_law_313 : decode cL_law 313 = .ok (.iadd, 1) := by decide +kernel
theorem dL_law_314 : decode cL_law 314 = .ok (.invokestatic 71, 3) := by decide +kernel
theorem dL_law_317 : decode cL_law 317 = .ok (.bipush 99, 2) := by decide +kernel
theorem dL_law_319 : decode cL_law 319 = .ok (.iload 6, 2) := by decide +kernel
theorem dL_law_321 : decode cL_law 321 = .ok (.iload 8, 2) := by decide +kernel
theorem dL_law_323 : decode cL_law 323 = .ok (.iadd, 1) := by decide +kernel
theorem dL_law_324 : decode cL_law 324 = .ok (.invokestatic 71, 3) := by decide +kernel
theorem dL_law_327 : decode cL_law 327 = .ok (.invokevirtual 36, 3) := by decide +kernel
theorem dL_law_330 : decode cL_law 330 = .ok (.istore 12, 2) := by decide +kernel
theorem dL_law_332 : decode cL_law 332 = .ok (.iload 11, 2) := by decide +kernel
theorem dL_law_334 : decode cL_law 334 = .ok (.ifCond .eq 18, 3) := by decide +kernel
theorem dL_law_337 : decode cL_law 337 = .ok (.iload 12, 2) := by decide +kernel
theorem dL_law_339 : decode cL_law 339 = .ok (.ldc 70, 2) := by decide +kernel
theorem dL_law_341 : decode cL_law 341 = .ok (.if_icmp .ne 7, 3) := by decide +kernel
theorem dL_law_344 : decode cL_law 344 = .ok (.iconst 1, 1) := by decide +kernel
theorem dL_law_345 : decode cL_law 345 = .ok (.goto 66, 3) := by decide +kernel
theorem dL_law_348 : decode cL_law 348 = .ok (.iconst 0, 1) := by decide +kernel
theorem dL_law_349 : decode cL_law 349 = .ok (.goto 62, 3) := by decide +kernel
theorem dL_law_352 : decode cL_law 352 = .ok (.iload 12, 2) := by decide +kernel
theorem dL_law_354 : decode cL_law 354 = .ok (.aload_n 1, 1) := by decide +kernel
theorem dL_law_355 : decode cL_law 355 = .ok (.iconst 1, 1) := by decide +kernel
theorem dL_law_356 : decode cL_law 356 = .ok (.invokevirtual 13, 3) := by decide +kernel
theorem dL_law_359 : decode cL_law 359 = .ok (.if_icmp .ne 51, 3) := by decide +kernel
theorem dL_law_362 : decode cL_law 362 = .ok (.aload_n 1, 1) := by decide +kernel
theorem dL_law_363 : decode cL_law 363 = .ok (.iconst 0, 1) := by decide +kernel
theorem dL_law_364 : decode cL_law 364 = .ok (.invokevirtual 13, 3) := by decide +kernel
theorem dL_law_367 : decode cL_law 367 = .ok (.iload 10, 2) := by decide +kernel
theorem dL_law_369 : decode cL_law 369 = .ok (.iconst 1, 1) := by decide +kernel
theorem dL_law_370 : decode cL_law 370 = .ok (.iadd, 1) := by decide +kernel
theorem dL_law_371 : decode cL_law 371 = .ok (.if_icmp .ne 39, 3) := by decide +kernel
theorem dL_law_374 : decode cL_law 374 = .ok (.aload_n 1, 1) := by decide +kernel
theorem dL_law_375 : decode cL_law 375 = .ok (.iload 9, 2) := by decide +kernel
theorem dL_law_377 : decode cL_law 377 = .ok (.iconst 0, 1) := by decide +kernel
theorem dL_law_378 : decode cL_law 378 = .ok (.invokevirtual 19, 3) := by decide +kernel
theorem dL_law_381 : decode cL_law 381 = .ok (.iload 5, 2) := by decide +kernel
theorem dL_law_383 : decode cL_law 383 = .ok (.if_icmp .ne 27, 3) := by decide +kernel
theorem dL_law_386 : decode cL_law 386 = .ok (.aload_n 1, 1) := by decide +kernel
theorem dL_law_387 : decode cL_law 387 = .ok (.iload 9, 2) := by decide +kernel
theorem dL_law_389 : decode cL_law 389 = .ok (.iconst 3, 1) := by decide +kernel
theorem dL_law_390 : decode cL_law 390 = .ok (.invokevirtual 19, 3) := by decide +kernel
theorem dL_law_393 : decode cL_law 393 = .ok (.bipush 99, 2) := by decide +kernel
theorem dL_law_395 : decode cL_law 395 = .ok (.iload 6, 2) := by decide +kernel
theorem dL_law_397 : decode cL_law 397 = .ok (.iload 8, 2) := by decide +kernel
theorem dL_law_399 : decode cL_law 399 = .ok (.iadd, 1) := by decide +kernel
theorem dL_law_400 : decode cL_law 400 = .ok (.invokestatic 71, 3) := by decide +kernel
theorem dL_law_403 : decode cL_law 403 = .ok (.if_icmp .ne 7, 3) := by decide +kernel
theorem dL_law_406 : decode cL_law 406 = .ok (.iconst 1, 1) := by decide +kernel
theorem dL_law_407 : decode cL_law 407 = .ok (.goto 4, 3) := by decide +kernel
theorem dL_law_410 : decode cL_law 410 = .ok (.iconst 0, 1) := by decide +kernel
theorem dL_law_411 : decode cL_law 411 = .ok (.istore_n 2, 1) := by decide +kernel
theorem dL_law_412 : decode cL_law 412 = .ok (.goto 382, 3) := by decide +kernel
theorem dL_law_415 : decode cL_law 415 = .ok (.aload_n 1, 1) := by decide +kernel
theorem dL_law_416 : decode cL_law 416 = .ok (.iload 9, 2) := by decide +kernel
theorem dL_law_418 : decode cL_law 418 = .ok (.invokevirtual 41, 3) := by decide +kernel
theorem dL_law_421 : decode cL_law 421 = .ok (.istore 12, 2) := by decide +kernel
theorem dL_law_423 : decode cL_law 423 = .ok (.iload 11, 2) := by decide +kernel
theorem dL_law_425 : decode cL_law 425 = .ok (.ifCond .eq 45, 3) := by decide +kernel
theorem dL_law_428 : decode cL_law 428 = .ok (.iload 12, 2) := by decide +kernel
theorem dL_law_430 : decode cL_law 430 = .ok (.aload_n 1, 1) := by decide +kernel
theorem dL_law_431 : decode cL_law 431 = .ok (.iconst 1, 1) := by decide +kernel
theorem dL_law_432 : decode cL_law 432 = .ok (.invokevirtual 13, 3) := by decide +kernel
theorem dL_law_435 : decode cL_law 435 = .ok (.if_icmp .ne 31, 3) := by decide +kernel
theorem dL_law_438 : decode cL_law 438 = .ok (.aload_n 1, 1) := by decide +kernel
theorem dL_law_439 : decode cL_law 439 = .ok (.iconst 0, 1) := by decide +kernel
theorem dL_law_440 : decode cL_law 440 = .ok (.invokevirtual 13, 3) := by decide +kernel
theorem dL_law_443 : decode cL_law 443 = .ok (.iload 10, 2) := by decide +kernel
theorem dL_law_445 : decode cL_law 445 = .ok (.iconst 1, 1) := by decide +kernel
theorem dL_law_446 : decode cL_law 446 = .ok (.isub, 1) := by decide +kernel
theorem dL_law_447 : decode cL_law 447 = .ok (.if_icmp .ne 19, 3) := by decide +kernel
theorem dL_law_450 : decode cL_law 450 = .ok (.aload_n 1, 1) := by decide +kernel
theorem dL_law_451 : decode cL_law 451 = .ok (.iload 9, 2) := by decide +kernel
theorem dL_law_453 : decode cL_law 453 = .ok (.iconst 0, 1) := by decide +kernel
theorem dL_law_454 : decode cL_law 454 = .ok (.invokevirtual 19, 3) := by decide +kernel
theorem dL_law_457 : decode cL_law 457 = .ok (.ldc 44, 2) := by decide +kernel
theorem dL_law_459 : decode cL_law 459 = .ok (.if_icmp .ne 7, 3) := by decide +kernel
theorem dL_law_462 : decode cL_law 462 = .ok (.iconst 1, 1) := by decide +kernel
theorem dL_law_463 : decode cL_law 463 = .ok (.goto 19, 3) := by decide +kernel
theorem dL_law_466 : decode cL_law 466 = .ok (.iconst 0, 1) := by decide +kernel
theorem dL_law_467 : decode cL_law 467 = .ok (.goto 15, 3) := by decide +kernel
theorem dL_law_470 : decode cL_law 470 = .ok (.iload 12, 2) := by decide +kernel
theorem dL_law_472 : decode cL_law 472 = .ok (.ldc 70, 2) := by decide +kernel
theorem dL_law_474 : decode cL_law 474 = .ok (.if_icmp .ne 7, 3) := by decide +kernel
theorem dL_law_477 : decode cL_law 477 = .ok (.iconst 1, 1) := by decide +kernel
theorem dL_law_478 : decode cL_law 478 = .ok (.goto 4, 3) := by decide +kernel
theorem dL_law_481 : decode cL_law 481 = .ok (.iconst 0, 1) := by decide +kernel
theorem dL_law_482 : decode cL_law 482 = .ok (.istore_n 2, 1) := by decide +kernel
theorem dL_law_483 : decode cL_law 483 = .ok (.goto 311, 3) := by decide +kernel
theorem dL_law_486 : decode cL_law 486 = .ok (.aload_n 1, 1) := by decide +kernel
theorem dL_law_487 : decode cL_law 487 = .ok (.invokestatic 30, 3) := by decide +kernel
theorem dL_law_490 : decode cL_law 490 = .ok (.lstore 13, 2) := by decide +kernel
theorem dL_law_492 : decode cL_law 492 = .ok (.iload 11, 2) := by decide +kernel
theorem dL_law_494 : decode cL_law 494 = .ok (.ifCond .eq 7, 3) := by decide +kernel
theorem dL_law_497 : decode cL_law 497 = .ok (.iconst 3, 1) := by decide +kernel
theorem dL_law_498 : decode cL_law 498 = .ok (.goto 5, 3) := by decide +kernel
theorem dL_law_501 : decode cL_law 501 = .ok (.ldc 44, 2) := by decide +kernel
theorem dL_law_503 : decode cL_law 503 = .ok (.istore 15, 2) := by decide +kernel
theorem dL_law_505 : decode cL_law 505 = .ok (.aload_n 1, 1) := by decide +kernel
theorem dL_law_506 : decode cL_law 506 = .ok (.invokevirtual 100, 3) := by decide +kernel
theorem dL_law_509 : decode cL_law 509 = .ok (.ifCond .lt 111, 3) := by decide +kernel
theorem dL_law_512 : decode cL_law 512 = .ok (.aload_n 1, 1) := by decide +kernel
theorem dL_law_513 : decode cL_law 513 = .ok (.bipush 43, 2) := by decide +kernel
theorem dL_law_515 : decode cL_law 515 = .ok (.invokevirtual 64, 3) := by decide +kernel
theorem dL_law_518 : decode cL_law 518 = .ok (.iconst 1, 1) := by decide +kernel
theorem dL_law_519 : decode cL_law 519 = .ok (.if_icmp .ne 101, 3) := by decide +kernel
theorem dL_law_522 : decode cL_law 522 = .ok (.aload_n 1, 1) := by decide +kernel
theorem dL_law_523 : decode cL_law 523 = .ok (.iload 9, 2) := by decide +kernel
theorem dL_law_525 : decode cL_law 525 = .ok (.invokestatic 103, 3) := by decide +kernel
theorem dL_law_528 : decode cL_law 528 = .ok (.ifCond .eq 92, 3) := by decide +kernel
theorem dL_law_531 : decode cL_law 531 = .ok (.aload_n 1, 1) := by decide +kernel
theorem dL_law_532 : decode cL_law 532 = .ok (.bipush 44, 2) := by decide +kernel
theorem dL_law_534 : decode cL_law 534 = .ok (.invokevirtual 64, 3) := by decide +kernel
theorem dL_law_537 : decode cL_law 537 = .ok (.ifCond .le 83, 3) := by decide +kernel
theorem dL_law_540 : decode cL_law 540 = .ok (.aload_n 1, 1) := by decide +kernel
theorem dL_law_541 : decode cL_law 541 = .ok (.iload 5, 2) := by decide +kernel
theorem dL_law_543 : decode cL_law 543 = .ok (.invokestatic 103, 3) := by decide +kernel
theorem dL_law_546 : decode cL_law 546 = .ok (.ifCond .eq 74, 3) := by decide +kernel
theorem dL_law_549 : decode cL_law 549 = .ok (.aload_n 1, 1) := by decide +kernel
theorem dL_law_550 : decode cL_law 550 = .ok (.bipush 44, 2) := by decide +kernel
theorem dL_law_552 : decode cL_law 552 = .ok (.invokevirtual 64, 3) := by decide +kernel
theorem dL_law_555 : decode cL_law 555 = .ok (.ifCond .le 65, 3) := by decide +kernel
theorem dL_law_558 : decode cL_law 558 = .ok (.aload_n 1, 1) := by decide +kernel
theorem dL_law_559 : decode cL_law 559 = .ok (.iload 6, 2) := by decide +kernel
theorem dL_law_561 : decode cL_law 561 = .ok (.invokestatic 103, 3) := by decide +kernel
theorem dL_law_564 : decode cL_law 564 = .ok (.ifCond .eq 56, 3) := by decide +kernel
theorem dL_law_567 : decode cL_law 567 = .ok (.aload_n 1, 1) := by decide +kernel
theorem dL_law_568 : decode cL_law 568 = .ok (.bipush 44, 2) := by decide +kernel
theorem dL_law_570 : decode cL_law 570 = .ok (.invokevirtual 64, 3) := by decide +kernel
theorem dL_law_573 : decode cL_law 573 = .ok (.ifCond .le 47, 3) := by decide +kernel
theorem dL_law_576 : decode cL_law 576 = .ok (.aload_n 1, 1) := by decide +kernel
theorem dL_law_577 : decode cL_law 577 = .ok (.iload 5, 2) := by decide +kernel
theorem dL_law_579 : decode cL_law 579 = .ok (.iconst 3, 1) := by decide +kernel
theorem dL_law_580 : decode cL_law 580 = .ok (.iadd, 1) := by decide +kernel
theorem dL_law_581 : decode cL_law 581 = .ok (.invokestatic 103, 3) := by decide +kernel
theorem dL_law_584 : decode cL_law 584 = .ok (.ifCond .eq 36, 3) := by decide +kernel
theorem dL_law_587 : decode cL_law 587 = .ok (.aload_n 1, 1) := by decide +kernel
theorem dL_law_588 : decode cL_law 588 = .ok (.bipush 44, 2) := by decide +kernel
theorem dL_law_590 : decode cL_law 590 = .ok (.invokevirtual 64, 3) := by decide +kernel
theorem dL_law_593 : decode cL_law 593 = .ok (.ifCond .le 27, 3) := by decide +kernel
theorem dL_law_596 : decode cL_law 596 = .ok (.aload_n 1, 1) := by decide +kernel
theorem dL_law_597 : decode cL_law 597 = .ok (.iload 6, 2) := by decide +kernel
theorem dL_law_599 : decode cL_law 599 = .ok (.iconst 4, 1) := by decide +kernel
theorem dL_law_600 : decode cL_law 600 = .ok (.iadd, 1) := by decide +kernel
theorem dL_law_601 : decode cL_law 601 = .ok (.invokestatic 103, 3) := by decide +kernel
theorem dL_law_604 : decode cL_law 604 = .ok (.ifCond .eq 16, 3) := by decide +kernel
theorem dL_law_607 : decode cL_law 607 = .ok (.aload_n 1, 1) := by decide +kernel
theorem dL_law_608 : decode cL_law 608 = .ok (.bipush 59, 2) := by decide +kernel
theorem dL_law_610 : decode cL_law 610 = .ok (.invokevirtual 64, 3) := by decide +kernel
theorem dL_law_613 : decode cL_law 613 = .ok (.ifCond .le 7, 3) := by decide +kernel
theorem dL_law_616 : decode cL_law 616 = .ok (.iconst 1, 1) := by decide +kernel
theorem dL_law_617 : decode cL_law 617 = .ok (.goto 4, 3) := by decide +kernel
theorem dL_law_620 : decode cL_law 620 = .ok (.iconst 0, 1) := by decide +kernel
theorem dL_law_621 : decode cL_law 621 = .ok (.istore 16, 2) := by decide +kernel
theorem dL_law_623 : decode cL_law 623 = .ok (.iload 16, 2) := by decide +kernel
theorem dL_law_625 : decode cL_law 625 = .ok (.ifCond .eq 56, 3) := by decide +kernel
theorem dL_law_628 : decode cL_law 628 = .ok (.aload_n 1, 1) := by decide +kernel
theorem dL_law_629 : decode cL_law 629 = .ok (.iconst 1, 1) := by decide +kernel
theorem dL_law_630 : decode cL_law 630 = .ok (.invokevirtual 67, 3) := by decide +kernel
theorem dL_law_633 : decode cL_law 633 = .ok (.iload 15, 2) := by decide +kernel
theorem dL_law_635 : decode cL_law 635 = .ok (.if_icmp .ne 46, 3) := by decide +kernel
theorem dL_law_638 : decode cL_law 638 = .ok (.aload_n 1, 1) := by decide +kernel
theorem dL_law_639 : decode cL_law 639 = .ok (.iconst 0, 1) := by decide +kernel
theorem dL_law_640 : decode cL_law 640 = .ok (.invokevirtual 67, 3) := by decide +kernel
theorem dL_law_643 : decode cL_law 643 = .ok (.iload 11, 2) := by decide +kernel
theorem dL_law_645 : decode cL_law 645 = .ok (.ifCond .eq 7, 3) := by decide +kernel
theorem dL_law_648 : decode cL_law 648 = .ok (.iconst 0, 1) := by decide +kernel
theorem dL_law_649 : decode cL_law 649 = .ok (.goto 5, 3) := by decide +kernel
theorem dL_law_652 : decode cL_law 652 = .ok (.ldc 44, 2) := by decide +kernel
theorem dL_law_654 : decode cL_law 654 = .ok (.if_icmp .ne 27, 3) := by decide +kernel
theorem dL_law_657 : decode cL_law 657 = .ok (.aload_n 1, 1) := by decide +kernel
theorem dL_law_658 : decode cL_law 658 = .ok (.iconst 2, 1) := by decide +kernel
theorem dL_law_659 : decode cL_law 659 = .ok (.invokevirtual 67, 3) := by decide +kernel
theorem dL_law_662 : decode cL_law 662 = .ok (.ldc 44, 2) := by decide +kernel
theorem dL_law_664 : decode cL_law 664 = .ok (.if_icmp .ne 17, 3) := by decide +kernel
theorem dL_law_667 : decode cL_law 667 = .ok (.aload_n 1, 1) := by decide +kernel
theorem dL_law_668 : decode cL_law 668 = .ok (.invokestatic 30, 3) := by decide +kernel
theorem dL_law_671 : decode cL_law 671 = .ok (.lload 13, 2) := by decide +kernel
theorem dL_law_673 : decode cL_law 673 = .ok (.lcmp, 1) := by decide +kernel
theorem dL_law_674 : decode cL_law 674 = .ok (.ifCond .ne 7, 3) := by decide +kernel
theorem dL_law_677 : decode cL_law 677 = .ok (.iconst 1, 1) := by decide +kernel
theorem dL_law_678 : decode cL_law 678 = .ok (.goto 4, 3) := by decide +kernel
theorem dL_law_681 : decode cL_law 681 = .ok (.iconst 0, 1) := by decide +kernel
theorem dL_law_682 : decode cL_law 682 = .ok (.istore_n 2, 1) := by decide +kernel
theorem dL_law_683 : decode cL_law 683 = .ok (.aload_n 1, 1) := by decide +kernel
theorem dL_law_684 : decode cL_law 684 = .ok (.invokevirtual 86, 3) := by decide +kernel
theorem dL_law_687 : decode cL_law 687 = .ok (.istore 12, 2) := by decide +kernel
theorem dL_law_689 : decode cL_law 689 = .ok (.iload_n 2, 1) := by decide +kernel
theorem dL_law_690 : decode cL_law 690 = .ok (.ifCond .eq 57, 3) := by decide +kernel
theorem dL_law_693 : decode cL_law 693 = .ok (.iload 12, 2) := by decide +kernel
theorem dL_law_695 : decode cL_law 695 = .ok (.iload 11, 2) := by decide +kernel
theorem dL_law_697 : decode cL_law 697 = .ok (.ifCond .eq 8, 3) := by decide +kernel
theorem dL_law_700 : decode cL_law 700 = .ok (.ldc 70, 2) := by decide +kernel
theorem dL_law_702 : decode cL_law 702 = .ok (.goto 4, 3) := by decide +kernel
theorem dL_law_705 : decode cL_law 705 = .ok (.iconst 1, 1) := by decide +kernel
theorem dL_law_706 : decode cL_law 706 = .ok (.if_icmp .ne 41, 3) := by decide +kernel
theorem dL_law_709 : decode cL_law 709 = .ok (.aload_n 1, 1) := by decide +kernel
theorem dL_law_710 : decode cL_law 710 = .ok (.iconst 0, 1) := by decide +kernel
theorem dL_law_711 : decode cL_law 711 = .ok (.invokevirtual 13, 3) := by decide +kernel
theorem dL_law_714 : decode cL_law 714 = .ok (.iload 11, 2) := by decide +kernel
theorem dL_law_716 : decode cL_law 716 = .ok (.ifCond .eq 8, 3) := by decide +kernel
theorem dL_law_719 : decode cL_law 719 = .ok (.iload 10, 2) := by decide +kernel
theorem dL_law_721 : decode cL_law 721 = .ok (.goto 7, 3) := by decide +kernel
theorem dL_law_724 : decode cL_law 724 = .ok (.iload 10, 2) := by decide +kernel
theorem dL_law_726 : decode cL_law 726 = .ok (.iconst 1, 1) := by decide +kernel
theorem dL_law_727 : decode cL_law 727 = .ok (.iadd, 1) := by decide +kernel
theorem dL_law_728 : decode cL_law 728 = .ok (.if_icmp .ne 19, 3) := by decide +kernel
theorem dL_law_731 : decode cL_law 731 = .ok (.aload_n 1, 1) := by decide +kernel
theorem dL_law_732 : decode cL_law 732 = .ok (.iload 9, 2) := by decide +kernel
theorem dL_law_734 : decode cL_law 734 = .ok (.iconst 0, 1) := by decide +kernel
theorem dL_law_735 : decode cL_law 735 = .ok (.invokevirtual 19, 3) := by decide +kernel
theorem dL_law_738 : decode cL_law 738 = .ok (.ldc 44, 2) := by decide +kernel
theorem dL_law_740 : decode cL_law 740 = .ok (.if_icmp .eq 7, 3) := by decide +kernel
theorem dL_law_743 : decode cL_law 743 = .ok (.iconst 1, 1) := by decide +kernel
theorem dL_law_744 : decode cL_law 744 = .ok (.goto 4, 3) := by decide +kernel
theorem dL_law_747 : decode cL_law 747 = .ok (.iconst 0, 1) := by decide +kernel
theorem dL_law_748 : decode cL_law 748 = .ok (.istore_n 2, 1) := by decide +kernel
theorem dL_law_749 : decode cL_law 749 = .ok (.goto 45, 3) := by decide +kernel
theorem dL_law_752 : decode cL_law 752 = .ok (.aload_n 1, 1) := by decide +kernel
theorem dL_law_753 : decode cL_law 753 = .ok (.bipush 8, 2) := by decide +kernel
theorem dL_law_755 : decode cL_law 755 = .ok (.invokevirtual 13, 3) := by decide +kernel
theorem dL_law_758 : decode cL_law 758 = .ok (.istore 13, 2) := by decide +kernel
theorem dL_law_760 : decode cL_law 760 = .ok (.aload_n 1, 1) := by decide +kernel
theorem dL_law_761 : decode cL_law 761 = .ok (.invokevirtual 81, 3) := by decide +kernel
theorem dL_law_764 : decode cL_law 764 = .ok (.istore 12, 2) := by decide +kernel
theorem dL_law_766 : decode cL_law 766 = .ok (.iload 12, 2) := by decide +kernel
theorem dL_law_768 : decode cL_law 768 = .ok (.iload 13, 2) := by decide +kernel
theorem dL_law_770 : decode cL_law 770 = .ok (.ifCond .ne 8, 3) := by decide +kernel
theorem dL_law_773 : decode cL_law 773 = .ok (.ldc 70, 2) := by decide +kernel
theorem dL_law_775 : decode cL_law 775 = .ok (.goto 7, 3) := by decide +kernel
theorem dL_law_778 : decode cL_law 778 = .ok (.iload 13, 2) := by decide +kernel
theorem dL_law_780 : decode cL_law 780 = .ok (.iconst 1, 1) := by decide +kernel
theorem dL_law_781 : decode cL_law 781 = .ok (.isub, 1) := by decide +kernel
theorem dL_law_782 : decode cL_law 782 = .ok (.if_icmp .ne 7, 3) := by decide +kernel
theorem dL_law_785 : decode cL_law 785 = .ok (.iconst 1, 1) := by decide +kernel
theorem dL_law_786 : decode cL_law 786 = .ok (.goto 4, 3) := by decide +kernel
theorem dL_law_789 : decode cL_law 789 = .ok (.iconst 0, 1) := by decide +kernel
theorem dL_law_790 : decode cL_law 790 = .ok (.istore_n 2, 1) := by decide +kernel
theorem dL_law_791 : decode cL_law 791 = .ok (.goto 3, 3) := by decide +kernel
theorem dL_law_794 : decode cL_law 794 = .ok (.iload_n 2, 1) := by decide +kernel
theorem dL_law_795 : decode cL_law 795 = .ok (.ifCond .eq 95, 3) := by decide +kernel
theorem dL_law_798 : decode cL_law 798 = .ok (.iload 12, 2) := by decide +kernel
theorem dL_law_800 : decode cL_law 800 = .ok (.ifCond .ge 10, 3) := by decide +kernel
theorem dL_law_803 : decode cL_law 803 = .ok (.iload 12, 2) := by decide +kernel
theorem dL_law_805 : decode cL_law 805 = .ok (.ldc 70, 2) := by decide +kernel
theorem dL_law_807 : decode cL_law 807 = .ok (.if_icmp .ne 83, 3) := by decide +kernel
theorem dL_law_810 : decode cL_law 810 = .ok (.iload_n 3, 1) := by decide +kernel
theorem dL_law_811 : decode cL_law 811 = .ok (.iconst 2, 1) := by decide +kernel
theorem dL_law_812 : decode cL_law 812 = .ok (.irem, 1) := by decide +kernel
theorem dL_law_813 : decode cL_law 813 = .ok (.ifCond .eq 10, 3) := by decide +kernel
theorem dL_law_816 : decode cL_law 816 = .ok (.aload_n 1, 1) := by decide +kernel
theorem dL_law_817 : decode cL_law 817 = .ok (.invokestatic 77, 3) := by decide +kernel
theorem dL_law_820 : decode cL_law 820 = .ok (.ifCond .eq 70, 3) := by decide +kernel
theorem dL_law_823 : decode cL_law 823 = .ok (.iload_n 3, 1) := by decide +kernel
theorem dL_law_824 : decode cL_law 824 = .ok (.iconst 4, 1) := by decide +kernel
theorem dL_law_825 : decode cL_law 825 = .ok (.irem, 1) := by decide +kernel
theorem dL_law_826 : decode cL_law 826 = .ok (.iconst 1, 1) := by decide +kernel
theorem dL_law_827 : decode cL_law 827 = .ok (.if_icmp .ne 20, 3) := by decide +kernel
theorem dL_law_830 : decode cL_law 830 = .ok (.aload_n 1, 1) := by decide +kernel
theorem dL_law_831 : decode cL_law 831 = .ok (.iload 6, 2) := by decide +kernel
theorem dL_law_833 : decode cL_law 833 = .ok (.iload 5, 2) := by decide +kernel
theorem dL_law_835 : decode cL_law 835 = .ok (.iconst 2, 1) := by decide +kernel
theorem dL_law_836 : decode cL_law 836 = .ok (.iload 7, 2) := by decide +kernel
theorem dL_law_838 : decode cL_law 838 = .ok (.imul, 1) := by decide +kernel
theorem dL_law_839 : decode cL_law 839 = .ok (.iload 8, 2) := by decide +kernel
theorem dL_law_841 : decode cL_law 841 = .ok (.invokestatic 106, 3) := by decide +kernel
theorem dL_law_844 : decode cL_law 844 = .ok (.ifCond .eq 46, 3) := by decide +kernel
theorem dL_law_847 : decode cL_law 847 = .ok (.iload_n 3, 1) := by decide +kernel
theorem dL_law_848 : decode cL_law 848 = .ok (.iconst 5, 1) := by decide +kernel
theorem dL_law_849 : decode cL_law 849 = .ok (.irem, 1) := by decide +kernel
theorem dL_law_850 : decode cL_law 850 = .ok (.iconst 3, 1) := by decide +kernel
theorem dL_law_851 : decode cL_law 851 = .ok (.if_icmp .ne 18, 3) := by decide +kernel
theorem dL_law_854 : decode cL_law 854 = .ok (.aload_n 1, 1) := by decide +kernel
theorem dL_law_855 : decode cL_law 855 = .ok (.iload 6, 2) := by decide +kernel
theorem dL_law_857 : decode cL_law 857 = .ok (.iload 5, 2) := by decide +kernel
theorem dL_law_859 : decode cL_law 859 = .ok (.iload 8, 2) := by decide +kernel
theorem dL_law_861 : decode cL_law 861 = .ok (.iload 7, 2) := by decide +kernel
theorem dL_law_863 : decode cL_law 863 = .ok (.invokestatic 110, 3) := by decide +kernel
theorem dL_law_866 : decode cL_law 866 = .ok (.ifCond .eq 24, 3) := by decide +kernel
theorem dL_law_869 : decode cL_law 869 = .ok (.iload_n 3, 1) := by decide +kernel
theorem dL_law_870 : decode cL_law 870 = .ok (.bipush 8, 2) := by decide +kernel
theorem dL_law_872 : decode cL_law 872 = .ok (.irem, 1) := by decide +kernel
theorem dL_law_873 : decode cL_law 873 = .ok (.iconst 4, 1) := by decide +kernel
theorem dL_law_874 : decode cL_law 874 = .ok (.if_icmp .ne 12, 3) := by decide +kernel
theorem dL_law_877 : decode cL_law 877 = .ok (.aload_n 1, 1) := by decide +kernel
theorem dL_law_878 : decode cL_law 878 = .ok (.iload 9, 2) := by decide +kernel
theorem dL_law_880 : decode cL_law 880 = .ok (.invokestatic 89, 3) := by decide +kernel
theorem dL_law_883 : decode cL_law 883 = .ok (.ifCond .eq 7, 3) := by decide +kernel
theorem dL_law_886 : decode cL_law 886 = .ok (.iconst 1, 1) := by decide +kernel
theorem dL_law_887 : decode cL_law 887 = .ok (.goto 4, 3) := by decide +kernel
theorem dL_law_890 : decode cL_law 890 = .ok (.iconst 0, 1) := by decide +kernel
theorem dL_law_891 : decode cL_law 891 = .ok (.istore_n 2, 1) := by decide +kernel
theorem dL_law_892 : decode cL_law 892 = .ok (.iinc 3 1, 3) := by decide +kernel
theorem dL_law_895 : decode cL_law 895 = .ok (.goto (-785), 3) := by decide +kernel
theorem dL_law_898 : decode cL_law 898 = .ok (.iload_n 2, 1) := by decide +kernel
theorem dL_law_899 : decode cL_law 899 = .ok (.ifCond .eq 22, 3) := by decide +kernel
theorem dL_law_902 : decode cL_law 902 = .ok (.aload_n 1, 1) := by decide +kernel
theorem dL_law_903 : decode cL_law 903 = .ok (.invokestatic 77, 3) := by decide +kernel
theorem dL_law_906 : decode cL_law 906 = .ok (.ifCond .eq 15, 3) := by decide +kernel
theorem dL_law_909 : decode cL_law 909 = .ok (.aload_n 1, 1) := by decide +kernel
theorem dL_law_910 : decode cL_law 910 = .ok (.iconst 3, 1) := by decide +kernel
theorem dL_law_911 : decode cL_law 911 = .ok (.invokestatic 89, 3) := by decide +kernel
theorem dL_law_914 : decode cL_law 914 = .ok (.ifCond .eq 7, 3) := by decide +kernel
theorem dL_law_917 : decode cL_law 917 = .ok (.iconst 1, 1) := by decide +kernel
theorem dL_law_918 : decode cL_law 918 = .ok (.goto 4, 3) := by decide +kernel
theorem dL_law_921 : decode cL_law 921 = .ok (.iconst 0, 1) := by decide +kernel
theorem dL_law_922 : decode cL_law 922 = .ok (.ireturn, 1) := by decide +kernel
