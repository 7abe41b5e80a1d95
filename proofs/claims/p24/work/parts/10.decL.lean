theorem dL_cell_0 : decode cL_cell 0 = .ok (.iload_n 1, 1) := by decide +kernel
theorem dL_cell_1 : decode cL_cell 1 = .ok (.aload_n 0, 1) := by decide +kernel
theorem dL_cell_2 : decode cL_cell 2 = .ok (.arraylength, 1) := by decide +kernel
theorem dL_cell_3 : decode cL_cell 3 = .ok (.if_icmp .ge 9, 3) := by decide +kernel
theorem dL_cell_6 : decode cL_cell 6 = .ok (.aload_n 0, 1) := by decide +kernel
theorem dL_cell_7 : decode cL_cell 7 = .ok (.iload_n 1, 1) := by decide +kernel
theorem dL_cell_8 : decode cL_cell 8 = .ok (.iaload, 1) := by decide +kernel
theorem dL_cell_9 : decode cL_cell 9 = .ok (.goto 12, 3) := by decide +kernel
theorem dL_cell_12 : decode cL_cell 12 = .ok (.ldc 7, 2) := by decide +kernel
theorem dL_cell_14 : decode cL_cell 14 = .ok (.iload_n 1, 1) := by decide +kernel
theorem dL_cell_15 : decode cL_cell 15 = .ok (.iconst 1, 1) := by decide +kernel
theorem dL_cell_16 : decode cL_cell 16 = .ok (.iadd, 1) := by decide +kernel
theorem dL_cell_17 : decode cL_cell 17 = .ok (.imul, 1) := by decide +kernel
theorem dL_cell_18 : decode cL_cell 18 = .ok (.ldc 8, 2) := by decide +kernel
theorem dL_cell_20 : decode cL_cell 20 = .ok (.iadd, 1) := by decide +kernel
theorem dL_cell_21 : decode cL_cell 21 = .ok (.ireturn, 1) := by decide +kernel
theorem dL_low_0 : decode cL_low 0 = .ok (.iload_n 0, 1) := by decide +kernel
theorem dL_low_1 : decode cL_low 1 = .ok (.ldc 9, 2) := by decide +kernel
theorem dL_low_3 : decode cL_low 3 = .ok (.iand, 1) := by decide +kernel
theorem dL_low_4 : decode cL_low 4 = .ok (.iload_n 1, 1) := by decide +kernel
theorem dL_low_5 : decode cL_low 5 = .ok (.irem, 1) := by decide +kernel
theorem dL_low_6 : decode cL_low 6 = .ok (.ireturn, 1) := by decide +kernel
theorem dL_worn_0 : decode cL_worn 0 = .ok (.iload_n 0, 1) := by decide +kernel
theorem dL_worn_1 : decode cL_worn 1 = .ok (.iconst 2, 1) := by decide +kernel
theorem dL_worn_2 : decode cL_worn 2 = .ok (.if_icmp .ge 14, 3) := by decide +kernel
theorem dL_worn_5 : decode cL_worn 5 = .ok (.aload_n 2, 1) := by decide +kernel
theorem dL_worn_6 : decode cL_worn 6 = .ok (.bipush 32, 2) := by decide +kernel
theorem dL_worn_8 : decode cL_worn 8 = .ok (.iload_n 0, 1) := by decide +kernel
theorem dL_worn_9 : decode cL_worn 9 = .ok (.imul, 1) := by decide +kernel
theorem dL_worn_10 : decode cL_worn 10 = .ok (.iload_n 1, 1) := by decide +kernel
theorem dL_worn_11 : decode cL_worn 11 = .ok (.iadd, 1) := by decide +kernel
theorem dL_worn_12 : decode cL_worn 12 = .ok (.iaload, 1) := by decide +kernel
theorem dL_worn_13 : decode cL_worn 13 = .ok (.goto 14, 3) := by decide +kernel
theorem dL_worn_16 : decode cL_worn 16 = .ok (.aload_n 3, 1) := by decide +kernel
theorem dL_worn_17 : decode cL_worn 17 = .ok (.bipush 32, 2) := by decide +kernel
theorem dL_worn_19 : decode cL_worn 19 = .ok (.iload_n 0, 1) := by decide +kernel
theorem dL_worn_20 : decode cL_worn 20 = .ok (.imul, 1) := by decide +kernel
theorem dL_worn_21 : decode cL_worn 21 = .ok (.bipush 64, 2) := by decide +kernel
theorem dL_worn_23 : decode cL_worn 23 = .ok (.isub, 1) := by decide +kernel
theorem dL_worn_24 : decode cL_worn 24 = .ok (.iload_n 1, 1) := by decide +kernel
theorem dL_worn_25 : decode cL_worn 25 = .ok (.iadd, 1) := by decide +kernel
theorem dL_worn_26 : decode cL_worn 26 = .ok (.iaload, 1) := by decide +kernel
theorem dL_worn_27 : decode cL_worn 27 = .ok (.ireturn, 1) := by decide +kernel
theorem dL_wear_0 : decode cL_wear 0 = .ok (.iload_n 0, 1) := by decide +kernel
theorem dL_wear_1 : decode cL_wear 1 = .ok (.iconst 2, 1) := by decide +kernel
theorem dL_wear_2 : decode cL_wear 2 = .ok (.if_icmp .ge 18, 3) := by decide +kernel
theorem dL_wear_5 : decode cL_wear 5 = .ok (.aload_n 3, 1) := by decide +kernel
theorem dL_wear_6 : decode cL_wear 6 = .ok (.bipush 32, 2) := by decide +kernel
theorem dL_wear_8 : decode cL_wear 8 = .ok (.iload_n 0, 1) := by decide +kernel
theorem dL_wear_9 : decode cL_wear 9 = .ok (.imul, 1) := by decide +kernel
theorem dL_wear_10 : decode cL_wear 10 = .ok (.iload_n 1, 1) := by decide +kernel
theorem dL_wear_11 : decode cL_wear 11 = .ok (.iadd, 1) := by decide +kernel
theorem dL_wear_12 : decode cL_wear 12 = .ok (.dup2, 1) := by decide +kernel
theorem dL_wear_13 : decode cL_wear 13 = .ok (.iaload, 1) := by decide +kernel
theorem dL_wear_14 : decode cL_wear 14 = .ok (.iload_n 2, 1) := by decide +kernel
theorem dL_wear_15 : decode cL_wear 15 = .ok (.iadd, 1) := by decide +kernel
theorem dL_wear_16 : decode cL_wear 16 = .ok (.iastore, 1) := by decide +kernel
theorem dL_wear_17 : decode cL_wear 17 = .ok (.goto 19, 3) := by decide +kernel
theorem dL_wear_20 : decode cL_wear 20 = .ok (.aload 4, 2) := by decide +kernel
theorem dL_wear_22 : decode cL_wear 22 = .ok (.bipush 32, 2) := by decide +kernel
theorem dL_wear_24 : decode cL_wear 24 = .ok (.iload_n 0, 1) := by decide +kernel
theorem dL_wear_25 : decode cL_wear 25 = .ok (.imul, 1) := by decide +kernel
theorem dL_wear_26 : decode cL_wear 26 = .ok (.bipush 64, 2) := by decide +kernel
theorem dL_wear_28 : decode cL_wear 28 = .ok (.isub, 1) := by decide +kernel
theorem dL_wear_29 : decode cL_wear 29 = .ok (.iload_n 1, 1) := by decide +kernel
theorem dL_wear_30 : decode cL_wear 30 = .ok (.iadd, 1) := by decide +kernel
theorem dL_wear_31 : decode cL_wear 31 = .ok (.dup2, 1) := by decide +kernel
theorem dL_wear_32 : decode cL_wear 32 = .ok (.iaload, 1) := by decide +kernel
theorem dL_wear_33 : decode cL_wear 33 = .ok (.iload_n 2, 1) := by decide +kernel
theorem dL_wear_34 : decode cL_wear 34 = .ok (.iadd, 1) := by decide +kernel
theorem dL_wear_35 : decode cL_wear 35 = .ok (.iastore, 1) := by decide +kernel
theorem dL_wear_36 : decode cL_wear 36 = .ok (.return_, 1) := by decide +kernel
theorem dL_abs_0 : decode cL_abs 0 = .ok (.iload_n 0, 1) := by decide +kernel
theorem dL_abs_1 : decode cL_abs 1 = .ok (.ifCond .ge 8, 3) := by decide +kernel
theorem dL_abs_4 : decode cL_abs 4 = .ok (.iload_n 0, 1) := by decide +kernel
theorem dL_abs_5 : decode cL_abs 5 = .ok (.ineg, 1) := by decide +kernel
theorem dL_abs_6 : decode cL_abs 6 = .ok (.goto 4, 3) := by decide +kernel
theorem dL_abs_9 : decode cL_abs 9 = .ok (.iload_n 0, 1) := by decide +kernel
theorem dL_abs_10 : decode cL_abs 10 = .ok (.ireturn, 1) := by decide +kernel
theorem dL_place_0 : decode cL_place 0 = .ok (.bipush 12, 2) := by decide +kernel
theorem dL_place_2 : decode cL_place 2 = .ok (.iload_n 0, 1) := by decide +kernel
theorem dL_place_3 : decode cL_place 3 = .ok (.imul, 1) := by decide +kernel
theorem dL_place_4 : decode cL_place 4 = .ok (.istore_n 3, 1) := by decide +kernel
theorem dL_place_5 : decode cL_place 5 = .ok (.bipush 12, 2) := by decide +kernel
theorem dL_place_7 : decode cL_place 7 = .ok (.iload_n 1, 1) := by decide +kernel
theorem dL_place_8 : decode cL_place 8 = .ok (.imul, 1) := by decide +kernel
theorem dL_place_9 : decode cL_place 9 = .ok (.istore 4, 2) := by decide +kernel
theorem dL_place_11 : decode cL_place 11 = .ok (.aload_n 2, 1) := by decide +kernel
theorem dL_place_12 : decode cL_place 12 = .ok (.iload_n 3, 1) := by decide +kernel
theorem dL_place_13 : decode cL_place 13 = .ok (.bipush 8, 2) := by decide +kernel
theorem dL_place_15 : decode cL_place 15 = .ok (.iadd, 1) := by decide +kernel
theorem dL_place_16 : decode cL_place 16 = .ok (.iaload, 1) := by decide +kernel
theorem dL_place_17 : decode cL_place 17 = .ok (.ifCond .ne 13, 3) := by decide +kernel
theorem dL_place_20 : decode cL_place 20 = .ok (.aload_n 2, 1) := by decide +kernel
theorem dL_place_21 : decode cL_place 21 = .ok (.iload 4, 2) := by decide +kernel
theorem dL_place_23 : decode cL_place 23 = .ok (.bipush 8, 2) := by decide +kernel
theorem dL_place_25 : decode cL_place 25 = .ok (.iadd, 1) := by decide +kernel
theorem dL_place_26 : decode cL_place 26 = .ok (.iaload, 1) := by decide +kernel
theorem dL_place_27 : decode cL_place 27 = .ok (.ifCond .eq 5, 3) := by decide +kernel
theorem dL_place_30 : decode cL_place 30 = .ok (.iconst (-1), 1) := by decide +kernel
theorem dL_place_31 : decode cL_place 31 = .ok (.ireturn, 1) := by decide +kernel
theorem dL_place_32 : decode cL_place 32 = .ok (.aload_n 2, 1) := by decide +kernel
theorem dL_place_33 : decode cL_place 33 = .ok (.iload_n 3, 1) := by decide +kernel
theorem dL_place_34 : decode cL_place 34 = .ok (.iconst 1, 1) := by decide +kernel
theorem dL_place_35 : decode cL_place 35 = .ok (.iadd, 1) := by decide +kernel
theorem dL_place_36 : decode cL_place 36 = .ok (.iaload, 1) := by decide +kernel
theorem dL_place_37 : decode cL_place 37 = .ok (.aload_n 2, 1) := by decide +kernel
theorem dL_place_38 : decode cL_place 38 = .ok (.iload_n 3, 1) := by decide +kernel
theorem dL_place_39 : decode cL_place 39 = .ok (.iaload, 1) := by decide +kernel
theorem dL_place_40 : decode cL_place 40 = .ok (.isub, 1) := by decide +kernel
theorem dL_place_41 : decode cL_place 41 = .ok (.istore 5, 2) := by decide +kernel
theorem dL_place_43 : decode cL_place 43 = .ok (.aload_n 2, 1) := by decide +kernel
theorem dL_place_44 : decode cL_place 44 = .ok (.iload_n 3, 1) := by decide +kernel
theorem dL_place_45 : decode cL_place 45 = .ok (.iconst 2, 1) := by decide +kernel
theorem dL_place_46 : decode cL_place 46 = .ok (.iadd, 1) := by decide +kernel
theorem dL_place_47 : decode cL_place 47 = .ok (.iaload, 1) := by decide +kernel
theorem dL_place_48 : decode cL_place 48 = .ok (.istore 6, 2) := by decide +kernel
theorem dL_place_50 : decode cL_place 50 = .ok (.aload_n 2, 1) := by decide +kernel
theorem dL_place_51 : decode cL_place 51 = .ok (.iload 4, 2) := by decide +kernel
theorem dL_place_53 : decode cL_place 53 = .ok (.iconst 1, 1) := by decide +kernel
theorem dL_place_54 : decode cL_place 54 = .ok (.iadd, 1) := by decide +kernel
theorem dL_place_55 : decode cL_place 55 = .ok (.iaload, 1) := by decide +kernel
theorem dL_place_56 : decode cL_place 56 = .ok (.aload_n 2, 1) := by decide +kernel
theorem dL_place_57 : decode cL_place 57 = .ok (.iload 4, 2) := by decide +kernel
theorem dL_place_59 : decode cL_place 59 = .ok (.iaload, 1) := by decide +kernel
theorem dL_place_60 : decode cL_place 60 = .ok (.isub, 1) := by decide +kernel
theorem dL_place_61 : decode cL_place 61 = .ok (.istore 7, 2) := by decide +kernel
theorem dL_place_63 : decode cL_place 63 = .ok (.aload_n 2, 1) := by decide +kernel
theorem dL_place_64 : decode cL_place 64 = .ok (.iload 4, 2) := by decide +kernel
theorem dL_place_66 : decode cL_place 66 = .ok (.iconst 2, 1) := by decide +kernel
theorem dL_place_67 : decode cL_place 67 = .ok (.iadd, 1) := by decide +kernel
theorem dL_place_68 : decode cL_place 68 = .ok (.iaload, 1) := by decide +kernel
theorem dL_place_69 : decode cL_place 69 = .ok (.istore 8, 2) := by decide +kernel
theorem dL_place_71 : decode cL_place 71 = .ok (.iload 5, 2) := by decide +kernel
theorem dL_place_73 : decode cL_place 73 = .ok (.iload 8, 2) := by decide +kernel
theorem dL_place_75 : decode cL_place 75 = .ok (.imul, 1) := by decide +kernel
theorem dL_place_76 : decode cL_place 76 = .ok (.iload 6, 2) := by decide +kernel
theorem dL_place_78 : decode cL_place 78 = .ok (.iload 7, 2) := by decide +kernel
theorem dL_place_80 : decode cL_place 80 = .ok (.imul, 1) := by decide +kernel
theorem dL_place_81 : decode cL_place 81 = .ok (.isub, 1) := by decide +kernel
theorem dL_place_82 : decode cL_place 82 = .ok (.istore 9, 2) := by decide +kernel
theorem dL_place_84 : decode cL_place 84 = .ok (.iload 9, 2) := by decide +kernel
theorem dL_place_86 : decode cL_place 86 = .ok (.ifCond .ne 5, 3) := by decide +kernel
theorem dL_place_89 : decode cL_place 89 = .ok (.iconst (-1), 1) := by decide +kernel
theorem dL_place_90 : decode cL_place 90 = .ok (.ireturn, 1) := by decide +kernel
theorem dL_place_91 : decode cL_place 91 = .ok (.aload_n 2, 1) := by decide +kernel
theorem dL_place_92 : decode cL_place 92 = .ok (.iload 4, 2) := by decide +kernel
theorem dL_place_94 : decode cL_place 94 = .ok (.iaload, 1) := by decide +kernel
theorem dL_place_95 : decode cL_place 95 = .ok (.aload_n 2, 1) := by decide +kernel
theorem dL_place_96 : decode cL_place 96 = .ok (.iload_n 3, 1) := by decide +kernel
theorem dL_place_97 : decode cL_place 97 = .ok (.iaload, 1) := by decide +kernel
theorem dL_place_98 : decode cL_place 98 = .ok (.isub, 1) := by decide +kernel
theorem dL_place_99 : decode cL_place 99 = .ok (.istore 10, 2) := by decide +kernel
theorem dL_place_101 : decode cL_place 101 = .ok (.iload 10, 2) := by decide +kernel
theorem dL_place_103 : decode cL_place 103 = .ok (.iload 8, 2) := by decide +kernel
theorem dL_place_105 : decode cL_place 105 = .ok (.imul, 1) := by decide +kernel
theorem dL_place_106 : decode cL_place 106 = .ok (.istore 11, 2) := by decide +kernel
theorem dL_place_108 : decode cL_place 108 = .ok (.iload 10, 2) := by decide +kernel
theorem dL_place_110 : decode cL_place 110 = .ok (.iload 6, 2) := by decide +kernel
theorem dL_place_112 : decode cL_place 112 = .ok (.imul, 1) := by decide +kernel
theorem dL_place_113 : decode cL_place 113 = .ok (.istore 12, 2) := by decide +kernel
theorem dL_place_115 : decode cL_place 115 = .ok (.iload 9, 2) := by decide +kernel
theorem dL_place_117 : decode cL_place 117 = .ok (.ifCond .ge 18, 3) := by decide +kernel
theorem dL_place_120 : decode cL_place 120 = .ok (.iload 11, 2) := by decide +kernel
theorem dL_place_122 : decode cL_place 122 = .ok (.ineg, 1) := by decide +kernel
theorem dL_place_123 : decode cL_place 123 = .ok (.istore 11, 2) := by decide +kernel
theorem dL_place_125 : decode cL_place 125 = .ok (.iload 12, 2) := by decide +kernel
theorem dL_place_127 : decode cL_place 127 = .ok (.ineg, 1) := by decide +kernel
theorem dL_place_128 : decode cL_place 128 = .ok (.istore 12, 2) := by decide +kernel
theorem dL_place_130 : decode cL_place 130 = .ok (.iload 9, 2) := by decide +kernel
theorem dL_place_132 : decode cL_place 132 = .ok (.ineg, 1) := by decide +kernel
theorem dL_place_133 : decode cL_place 133 = .ok (.istore 9, 2) := by decide +kernel
theorem dL_place_135 : decode cL_place 135 = .ok (.iload 11, 2) := by decide +kernel
theorem dL_place_137 : decode cL_place 137 = .ok (.ifCond .le 22, 3) := by decide +kernel
theorem dL_place_140 : decode cL_place 140 = .ok (.iload 11, 2) := by decide +kernel
theorem dL_place_142 : decode cL_place 142 = .ok (.iload 9, 2) := by decide +kernel
theorem dL_place_144 : decode cL_place 144 = .ok (.if_icmp .ge 15, 3) := by decide +kernel
theorem dL_place_147 : decode cL_place 147 = .ok (.iload 12, 2) := by decide +kernel
theorem dL_place_149 : decode cL_place 149 = .ok (.ifCond .le 10, 3) := by decide +kernel
theorem dL_place_152 : decode cL_place 152 = .ok (.iload 12, 2) := by decide +kernel
theorem dL_place_154 : decode cL_place 154 = .ok (.iload 9, 2) := by decide +kernel
theorem dL_place_156 : decode cL_place 156 = .ok (.if_icmp .lt 5, 3) := by decide +kernel
theorem dL_place_159 : decode cL_place 159 = .ok (.iconst (-1), 1) := by decide +kernel
theorem dL_place_160 : decode cL_place 160 = .ok (.ireturn, 1) := by decide +kernel
theorem dL_place_161 : decode cL_place 161 = .ok (.bipush 32, 2) := by decide +kernel
theorem dL_place_163 : decode cL_place 163 = .ok (.iload 11, 2) := by decide +kernel
theorem dL_place_165 : decode cL_place 165 = .ok (.imul, 1) := by decide +kernel
theorem dL_place_166 : decode cL_place 166 = .ok (.iload 9, 2) := by decide +kernel
theorem dL_place_168 : decode cL_place 168 = .ok (.idiv, 1) := by decide +kernel
theorem dL_place_169 : decode cL_place 169 = .ok (.iload 9, 2) := by decide +kernel
theorem dL_place_171 : decode cL_place 171 = .ok (.iload 5, 2) := by decide +kernel
theorem dL_place_173 : decode cL_place 173 = .ok (.iload 7, 2) := by decide +kernel
theorem dL_place_175 : decode cL_place 175 = .ok (.imul, 1) := by decide +kernel
theorem dL_place_176 : decode cL_place 176 = .ok (.iload 6, 2) := by decide +kernel
theorem dL_place_178 : decode cL_place 178 = .ok (.iload 8, 2) := by decide +kernel
theorem dL_place_180 : decode cL_place 180 = .ok (.imul, 1) := by decide +kernel
theorem dL_place_181 : decode cL_place 181 = .ok (.iadd, 1) := by decide +kernel
theorem dL_place_182 : decode cL_place 182 = .ok (.invokestatic 10, 3) := by decide +kernel
theorem dL_place_185 : decode cL_place 185 = .ok (.if_icmp .lt 8, 3) := by decide +kernel
theorem dL_place_188 : decode cL_place 188 = .ok (.bipush 64, 2) := by decide +kernel
theorem dL_place_190 : decode cL_place 190 = .ok (.goto 4, 3) := by decide +kernel
theorem dL_place_193 : decode cL_place 193 = .ok (.iconst 0, 1) := by decide +kernel
theorem dL_place_194 : decode cL_place 194 = .ok (.iadd, 1) := by decide +kernel
theorem dL_place_195 : decode cL_place 195 = .ok (.ireturn, 1) := by decide +kernel
theorem dL_sliding_0 : decode cL_sliding 0 = .ok (.iconst 1, 1) := by decide +kernel
theorem dL_sliding_1 : decode cL_sliding 1 = .ok (.aload_n 2, 1) := by decide +kernel
theorem dL_sliding_2 : decode cL_sliding 2 = .ok (.bipush 12, 2) := by decide +kernel
theorem dL_sliding_4 : decode cL_sliding 4 = .ok (.iload_n 0, 1) := by decide +kernel
theorem dL_sliding_5 : decode cL_sliding 5 = .ok (.imul, 1) := by decide +kernel
theorem dL_sliding_6 : decode cL_sliding 6 = .ok (.iconst 3, 1) := by decide +kernel
theorem dL_sliding_7 : decode cL_sliding 7 = .ok (.iadd, 1) := by decide +kernel
theorem dL_sliding_8 : decode cL_sliding 8 = .ok (.iaload, 1) := by decide +kernel
theorem dL_sliding_9 : decode cL_sliding 9 = .ok (.aload_n 2, 1) := by decide +kernel
theorem dL_sliding_10 : decode cL_sliding 10 = .ok (.bipush 12, 2) := by decide +kernel
theorem dL_sliding_12 : decode cL_sliding 12 = .ok (.iload_n 1, 1) := by decide +kernel
theorem dL_sliding_13 : decode cL_sliding 13 = .ok (.imul, 1) := by decide +kernel
theorem dL_sliding_14 : decode cL_sliding 14 = .ok (.iconst 3, 1) := by decide +kernel
theorem dL_sliding_15 : decode cL_sliding 15 = .ok (.iadd, 1) := by decide +kernel
theorem dL_sliding_16 : decode cL_sliding 16 = .ok (.iaload, 1) := by decide +kernel
theorem dL_sliding_17 : decode cL_sliding 17 = .ok (.isub, 1) := by decide +kernel
theorem dL_sliding_18 : decode cL_sliding 18 = .ok (.invokestatic 10, 3) := by decide +kernel
theorem dL_sliding_21 : decode cL_sliding 21 = .ok (.iadd, 1) := by decide +kernel
theorem dL_sliding_22 : decode cL_sliding 22 = .ok (.aload_n 2, 1) := by decide +kernel
theorem dL_sliding_23 : decode cL_sliding 23 = .ok (.bipush 12, 2) := by decide +kernel
theorem dL_sliding_25 : decode cL_sliding 25 = .ok (.iload_n 0, 1) := by decide +kernel
theorem dL_sliding_26 : decode cL_sliding 26 = .ok (.imul, 1) := by decide +kernel
theorem dL_sliding_27 : decode cL_sliding 27 = .ok (.iconst 4, 1) := by decide +kernel
theorem dL_sliding_28 : decode cL_sliding 28 = .ok (.iadd, 1) := by decide +kernel
theorem dL_sliding_29 : decode cL_sliding 29 = .ok (.iaload, 1) := by decide +kernel
theorem dL_sliding_30 : decode cL_sliding 30 = .ok (.aload_n 2, 1) := by decide +kernel
theorem dL_sliding_31 : decode cL_sliding 31 = .ok (.bipush 12, 2) := by decide +kernel
theorem dL_sliding_33 : decode cL_sliding 33 = .ok (.iload_n 1, 1) := by decide +kernel
theorem dL_sliding_34 : decode cL_sliding 34 = .ok (.imul, 1) := by decide +kernel
theorem dL_sliding_35 : decode cL_sliding 35 = .ok (.iconst 4, 1) := by decide +kernel
theorem dL_sliding_36 : decode cL_sliding 36 = .ok (.iadd, 1) := by decide +kernel
theorem dL_sliding_37 : decode cL_sliding 37 = .ok (.iaload, 1) := by decide +kernel
theorem dL_sliding_38 : decode cL_sliding 38 = .ok (.isub, 1) := by decide +kernel
theorem dL_sliding_39 : decode cL_sliding 39 = .ok (.invokestatic 10, 3) := by decide +kernel
theorem dL_sliding_42 : decode cL_sliding 42 = .ok (.iadd, 1) := by decide +kernel
theorem dL_sliding_43 : decode cL_sliding 43 = .ok (.ireturn, 1) := by decide +kernel
theorem dL_tick_0 : decode cL_tick 0 = .ok (.iconst 0, 1) := by decide +kernel
theorem dL_tick_1 : decode cL_tick 1 = .ok (.istore 5, 2) := by decide +kernel
theorem dL_tick_3 : decode cL_tick 3 = .ok (.iload 5, 2) := by decide +kernel
theorem dL_tick_5 : decode cL_tick 5 = .ok (.aload_n 0, 1) := by decide +kernel
theorem dL_tick_6 : decode cL_tick 6 = .ok (.iconst 0, 1) := by decide +kernel
theorem dL_tick_7 : decode cL_tick 7 = .ok (.iaload, 1) := by decide +kernel
theorem dL_tick_8 : decode cL_tick 8 = .ok (.if_icmp .ge 132, 3) := by decide +kernel
theorem dL_tick_11 : decode cL_tick 11 = .ok (.bipush 12, 2) := by decide +kernel
theorem dL_tick_13 : decode cL_tick 13 = .ok (.iload 5, 2) := by decide +kernel
theorem dL_tick_15 : decode cL_tick 15 = .ok (.imul, 1) := by decide +kernel
theorem dL_tick_16 : decode cL_tick 16 = .ok (.istore 6, 2) := by decide +kernel
theorem dL_tick_18 : decode cL_tick 18 = .ok (.aload_n 1, 1) := by decide +kernel
theorem dL_tick_19 : decode cL_tick 19 = .ok (.iload 6, 2) := by decide +kernel
theorem dL_tick_21 : decode cL_tick 21 = .ok (.bipush 8, 2) := by decide +kernel
theorem dL_tick_23 : decode cL_tick 23 = .ok (.iadd, 1) := by decide +kernel
theorem dL_tick_24 : decode cL_tick 24 = .ok (.iaload, 1) := by decide +kernel
theorem dL_tick_25 : decode cL_tick 25 = .ok (.ifCond .eq 6, 3) := by decide +kernel
theorem dL_tick_28 : decode cL_tick 28 = .ok (.goto 106, 3) := by decide +kernel
theorem dL_tick_31 : decode cL_tick 31 = .ok (.aload_n 1, 1) := by decide +kernel
theorem dL_tick_32 : decode cL_tick 32 = .ok (.iload 6, 2) := by decide +kernel
theorem dL_tick_34 : decode cL_tick 34 = .ok (.iconst 1, 1) := by decide +kernel
theorem dL_tick_35 : decode cL_tick 35 = .ok (.iadd, 1) := by decide +kernel
theorem dL_tick_36 : decode cL_tick 36 = .ok (.iaload, 1) := by decide +kernel
theorem dL_tick_37 : decode cL_tick 37 = .ok (.aload_n 1, 1) := by decide +kernel
theorem dL_tick_38 : decode cL_tick 38 = .ok (.iload 6, 2) := by decide +kernel
theorem dL_tick_40 : decode cL_tick 40 = .ok (.iconst 3, 1) := by decide +kernel
theorem dL_tick_41 : decode cL_tick 41 = .ok (.iadd, 1) := by decide +kernel
theorem dL_tick_42 : decode cL_tick 42 = .ok (.iaload, 1) := by decide +kernel
theorem dL_tick_43 : decode cL_tick 43 = .ok (.iadd, 1) := by decide +kernel
theorem dL_tick_44 : decode cL_tick 44 = .ok (.istore 7, 2) := by decide +kernel
theorem dL_tick_46 : decode cL_tick 46 = .ok (.iload 7, 2) := by decide +kernel
theorem dL_tick_48 : decode cL_tick 48 = .ok (.ifCond .lt 10, 3) := by decide +kernel
theorem dL_tick_51 : decode cL_tick 51 = .ok (.iload 7, 2) := by decide +kernel
theorem dL_tick_53 : decode cL_tick 53 = .ok (.bipush 63, 2) := by decide +kernel
theorem dL_tick_55 : decode cL_tick 55 = .ok (.if_icmp .le 19, 3) := by decide +kernel
theorem dL_tick_58 : decode cL_tick 58 = .ok (.aload_n 1, 1) := by decide +kernel
theorem dL_tick_59 : decode cL_tick 59 = .ok (.iload 6, 2) := by decide +kernel
theorem dL_tick_61 : decode cL_tick 61 = .ok (.iconst 3, 1) := by decide +kernel
theorem dL_tick_62 : decode cL_tick 62 = .ok (.iadd, 1) := by decide +kernel
theorem dL_tick_63 : decode cL_tick 63 = .ok (.aload_n 1, 1) := by decide +kernel
theorem dL_tick_64 : decode cL_tick 64 = .ok (.iload 6, 2) := by decide +kernel
theorem dL_tick_66 : decode cL_tick 66 = .ok (.iconst 3, 1) := by decide +kernel
theorem dL_tick_67 : decode cL_tick 67 = .ok (.iadd, 1) := by decide +kernel
theorem dL_tick_68 : decode cL_tick 68 = .ok (.iaload, 1) := by decide +kernel
theorem dL_tick_69 : decode cL_tick 69 = .ok (.ineg, 1) := by decide +kernel
theorem dL_tick_70 : decode cL_tick 70 = .ok (.iastore, 1) := by decide +kernel
theorem dL_tick_71 : decode cL_tick 71 = .ok (.goto 11, 3) := by decide +kernel
theorem dL_tick_74 : decode cL_tick 74 = .ok (.aload_n 1, 1) := by decide +kernel
theorem dL_tick_75 : decode cL_tick 75 = .ok (.iload 6, 2) := by decide +kernel
theorem dL_tick_77 : decode cL_tick 77 = .ok (.iconst 1, 1) := by decide +kernel
theorem dL_tick_78 : decode cL_tick 78 = .ok (.iadd, 1) := by decide +kernel
theorem dL_tick_79 : decode cL_tick 79 = .ok (.iload 7, 2) := by decide +kernel
theorem dL_tick_81 : decode cL_tick 81 = .ok (.iastore, 1) := by decide +kernel
theorem dL_tick_82 : decode cL_tick 82 = .ok (.aload_n 1, 1) := by decide +kernel
theorem dL_tick_83 : decode cL_tick 83 = .ok (.iload 6, 2) := by decide +kernel
theorem dL_tick_85 : decode cL_tick 85 = .ok (.iconst 2, 1) := by decide +kernel
theorem dL_tick_86 : decode cL_tick 86 = .ok (.iadd, 1) := by decide +kernel
theorem dL_tick_87 : decode cL_tick 87 = .ok (.iaload, 1) := by decide +kernel
theorem dL_tick_88 : decode cL_tick 88 = .ok (.aload_n 1, 1) := by decide +kernel
theorem dL_tick_89 : decode cL_tick 89 = .ok (.iload 6, 2) := by decide +kernel
theorem dL_tick_91 : decode cL_tick 91 = .ok (.iconst 4, 1) := by decide +kernel
theorem dL_tick_92 : decode cL_tick 92 = .ok (.iadd, 1) := by decide +kernel
theorem dL_tick_93 : decode cL_tick 93 = .ok (.iaload, 1) := by decide +kernel
theorem dL_tick_94 : decode cL_tick 94 = .ok (.iadd, 1) := by decide +kernel
theorem dL_tick_95 : decode cL_tick 95 = .ok (.istore 8, 2) := by decide +kernel
theorem dL_tick_97 : decode cL_tick 97 = .ok (.iload 8, 2) := by decide +kernel
theorem dL_tick_99 : decode cL_tick 99 = .ok (.iconst 1, 1) := by decide +kernel
theorem dL_tick_100 : decode cL_tick 100 = .ok (.if_icmp .lt 10, 3) := by decide +kernel
theorem dL_tick_103 : decode cL_tick 103 = .ok (.iload 8, 2) := by decide +kernel
theorem dL_tick_105 : decode cL_tick 105 = .ok (.bipush 47, 2) := by decide +kernel
theorem dL_tick_107 : decode cL_tick 107 = .ok (.if_icmp .le 19, 3) := by decide +kernel
theorem dL_tick_110 : decode cL_tick 110 = .ok (.aload_n 1, 1) := by decide +kernel
theorem dL_tick_111 : decode cL_tick 111 = .ok (.iload 6, 2) := by decide +kernel
theorem dL_tick_113 : decode cL_tick 113 = .ok (.iconst 4, 1) := by decide +kernel
theorem dL_tick_114 : decode cL_tick 114 = .ok (.iadd, 1) := by decide +kernel
theorem dL_tick_115 : decode cL_tick 115 = .ok (.aload_n 1, 1) := by decide +kernel
theorem dL_tick_116 : decode cL_tick 116 = .ok (.iload 6, 2) := by decide +kernel
theorem dL_tick_118 : decode cL_tick 118 = .ok (.iconst 4, 1) := by decide +kernel
theorem dL_tick_119 : decode cL_tick 119 = .ok (.iadd, 1) := by decide +kernel
theorem dL_tick_120 : decode cL_tick 120 = .ok (.iaload, 1) := by decide +kernel
theorem dL_tick_121 : decode cL_tick 121 = .ok (.ineg, 1) := by decide +kernel
theorem dL_tick_122 : decode cL_tick 122 = .ok (.iastore, 1) := by decide +kernel
theorem dL_tick_123 : decode cL_tick 123 = .ok (.goto 11, 3) := by decide +kernel
theorem dL_tick_126 : decode cL_tick 126 = .ok (.aload_n 1, 1) := by decide +kernel
theorem dL_tick_127 : decode cL_tick 127 = .ok (.iload 6, 2) := by decide +kernel
theorem dL_tick_129 : decode cL_tick 129 = .ok (.iconst 2, 1) := by decide +kernel
theorem dL_tick_130 : decode cL_tick 130 = .ok (.iadd, 1) := by decide +kernel
theorem dL_tick_131 : decode cL_tick 131 = .ok (.iload 8, 2) := by decide +kernel
theorem dL_tick_133 : decode cL_tick 133 = .ok (.iastore, 1) := by decide +kernel
theorem dL_tick_134 : decode cL_tick 134 = .ok (.iinc 5 1, 3) := by decide +kernel
theorem dL_tick_137 : decode cL_tick 137 = .ok (.goto (-134), 3) := by decide +kernel
theorem dL_tick_140 : decode cL_tick 140 = .ok (.iconst 0, 1) := by decide +kernel
theorem dL_tick_141 : decode cL_tick 141 = .ok (.istore 5, 2) := by decide +kernel
theorem dL_tick_143 : decode cL_tick 143 = .ok (.iload 5, 2) := by decide +kernel
theorem dL_tick_145 : decode cL_tick 145 = .ok (.aload_n 0, 1) := by decide +kernel
theorem dL_tick_146 : decode cL_tick 146 = .ok (.iconst 0, 1) := by decide +kernel
theorem dL_tick_147 : decode cL_tick 147 = .ok (.iaload, 1) := by decide +kernel
theorem dL_tick_148 : decode cL_tick 148 = .ok (.if_icmp .ge 115, 3) := by decide +kernel
theorem dL_tick_151 : decode cL_tick 151 = .ok (.iconst 0, 1) := by decide +kernel
theorem dL_tick_152 : decode cL_tick 152 = .ok (.istore 6, 2) := by decide +kernel
theorem dL_tick_154 : decode cL_tick 154 = .ok (.iload 6, 2) := by decide +kernel
theorem dL_tick_156 : decode cL_tick 156 = .ok (.aload_n 0, 1) := by decide +kernel
theorem dL_tick_157 : decode cL_tick 157 = .ok (.iconst 0, 1) := by decide +kernel
theorem dL_tick_158 : decode cL_tick 158 = .ok (.iaload, 1) := by decide +kernel
theorem dL_tick_159 : decode cL_tick 159 = .ok (.if_icmp .ge 98, 3) := by decide +kernel
theorem dL_tick_162 : decode cL_tick 162 = .ok (.aload 4, 2) := by decide +kernel
theorem dL_tick_164 : decode cL_tick 164 = .ok (.iconst 4, 1) := by decide +kernel
theorem dL_tick_165 : decode cL_tick 165 = .ok (.iload 5, 2) := by decide +kernel
theorem dL_tick_167 : decode cL_tick 167 = .ok (.imul, 1) := by decide +kernel
theorem dL_tick_168 : decode cL_tick 168 = .ok (.iload 6, 2) := by decide +kernel
theorem dL_tick_170 : decode cL_tick 170 = .ok (.iadd, 1) := by decide +kernel
theorem dL_tick_171 : decode cL_tick 171 = .ok (.iload 5, 2) := by decide +kernel
theorem dL_tick_173 : decode cL_tick 173 = .ok (.iload 6, 2) := by decide +kernel
theorem dL_tick_175 : decode cL_tick 175 = .ok (.if_icmp .ne 7, 3) := by decide +kernel
theorem dL_tick_178 : decode cL_tick 178 = .ok (.iconst (-1), 1) := by decide +kernel
theorem dL_tick_179 : decode cL_tick 179 = .ok (.goto 11, 3) := by decide +kernel
theorem dL_tick_182 : decode cL_tick 182 = .ok (.iload 5, 2) := by decide +kernel
theorem dL_tick_184 : decode cL_tick 184 = .ok (.iload 6, 2) := by decide +kernel
theorem dL_tick_186 : decode cL_tick 186 = .ok (.aload_n 1, 1) := by decide +kernel
theorem dL_tick_187 : decode cL_tick 187 = .ok (.invokestatic 16, 3) := by decide +kernel
theorem dL_tick_190 : decode cL_tick 190 = .ok (.iastore, 1) := by decide +kernel
theorem dL_tick_191 : decode cL_tick 191 = .ok (.aload 4, 2) := by decide +kernel
theorem dL_tick_193 : decode cL_tick 193 = .ok (.iconst 4, 1) := by decide +kernel
theorem dL_tick_194 : decode cL_tick 194 = .ok (.iload 5, 2) := by decide +kernel
theorem dL_tick_196 : decode cL_tick 196 = .ok (.imul, 1) := by decide +kernel
theorem dL_tick_197 : decode cL_tick 197 = .ok (.iload 6, 2) := by decide +kernel
theorem dL_tick_199 : decode cL_tick 199 = .ok (.iadd, 1) := by decide +kernel
theorem dL_tick_200 : decode cL_tick 200 = .ok (.iaload, 1) := by decide +kernel
theorem dL_tick_201 : decode cL_tick 201 = .ok (.istore 7, 2) := by decide +kernel
theorem dL_tick_203 : decode cL_tick 203 = .ok (.iload 7, 2) := by decide +kernel
theorem dL_tick_205 : decode cL_tick 205 = .ok (.ifCond .lt 46, 3) := by decide +kernel
theorem dL_tick_208 : decode cL_tick 208 = .ok (.iload 5, 2) := by decide +kernel
theorem dL_tick_210 : decode cL_tick 210 = .ok (.iload 7, 2) := by decide +kernel
theorem dL_tick_212 : decode cL_tick 212 = .ok (.bipush 64, 2) := by decide +kernel
theorem dL_tick_214 : decode cL_tick 214 = .ok (.irem, 1) := by decide +kernel
theorem dL_tick_215 : decode cL_tick 215 = .ok (.aload_n 1, 1) := by decide +kernel
theorem dL_tick_216 : decode cL_tick 216 = .ok (.bipush 12, 2) := by decide +kernel
theorem dL_tick_218 : decode cL_tick 218 = .ok (.iload 6, 2) := by decide +kernel
theorem dL_tick_220 : decode cL_tick 220 = .ok (.imul, 1) := by decide +kernel
theorem dL_tick_221 : decode cL_tick 221 = .ok (.iconst 5, 1) := by decide +kernel
theorem dL_tick_222 : decode cL_tick 222 = .ok (.iadd, 1) := by decide +kernel
theorem dL_tick_223 : decode cL_tick 223 = .ok (.iaload, 1) := by decide +kernel
theorem dL_tick_224 : decode cL_tick 224 = .ok (.iload 5, 2) := by decide +kernel
theorem dL_tick_226 : decode cL_tick 226 = .ok (.iload 6, 2) := by decide +kernel
theorem dL_tick_228 : decode cL_tick 228 = .ok (.aload_n 1, 1) := by decide +kernel
theorem dL_tick_229 : decode cL_tick 229 = .ok (.invokestatic 20, 3) := by decide +kernel
theorem dL_tick_232 : decode cL_tick 232 = .ok (.imul, 1) := by decide +kernel
theorem dL_tick_233 : decode cL_tick 233 = .ok (.iload 7, 2) := by decide +kernel
theorem dL_tick_235 : decode cL_tick 235 = .ok (.bipush 63, 2) := by decide +kernel
theorem dL_tick_237 : decode cL_tick 237 = .ok (.if_icmp .le 7, 3) := by decide +kernel
theorem dL_tick_240 : decode cL_tick 240 = .ok (.iconst 2, 1) := by decide +kernel
theorem dL_tick_241 : decode cL_tick 241 = .ok (.goto 4, 3) := by decide +kernel
theorem dL_tick_244 : decode cL_tick 244 = .ok (.iconst 1, 1) := by decide +kernel
theorem dL_tick_245 : decode cL_tick 245 = .ok (.imul, 1) := by decide +kernel
theorem dL_tick_246 : decode cL_tick 246 = .ok (.aload_n 2, 1) := by decide +kernel
theorem dL_tick_247 : decode cL_tick 247 = .ok (.aload_n 3, 1) := by decide +kernel
theorem dL_tick_248 : decode cL_tick 248 = .ok (.invokestatic 23, 3) := by decide +kernel
theorem dL_tick_251 : decode cL_tick 251 = .ok (.iinc 6 1, 3) := by decide +kernel
theorem dL_tick_254 : decode cL_tick 254 = .ok (.goto (-100), 3) := by decide +kernel
theorem dL_tick_257 : decode cL_tick 257 = .ok (.iinc 5 1, 3) := by decide +kernel
theorem dL_tick_260 : decode cL_tick 260 = .ok (.goto (-117), 3) := by decide +kernel
theorem dL_tick_263 : decode cL_tick 263 = .ok (.iconst 0, 1) := by decide +kernel
theorem dL_tick_264 : decode cL_tick 264 = .ok (.istore 5, 2) := by decide +kernel
theorem dL_tick_266 : decode cL_tick 266 = .ok (.iconst 0, 1) := by decide +kernel
theorem dL_tick_267 : decode cL_tick 267 = .ok (.istore 6, 2) := by decide +kernel
theorem dL_tick_269 : decode cL_tick 269 = .ok (.iconst 0, 1) := by decide +kernel
theorem dL_tick_270 : decode cL_tick 270 = .ok (.istore 7, 2) := by decide +kernel
theorem dL_tick_272 : decode cL_tick 272 = .ok (.iload 7, 2) := by decide +kernel
theorem dL_tick_274 : decode cL_tick 274 = .ok (.aload_n 0, 1) := by decide +kernel
theorem dL_tick_275 : decode cL_tick 275 = .ok (.iconst 0, 1) := by decide +kernel
theorem dL_tick_276 : decode cL_tick 276 = .ok (.iaload, 1) := by decide +kernel
theorem dL_tick_277 : decode cL_tick 277 = .ok (.if_icmp .ge 73, 3) := by decide +kernel
theorem dL_tick_280 : decode cL_tick 280 = .ok (.iconst 0, 1) := by decide +kernel
theorem dL_tick_281 : decode cL_tick 281 = .ok (.istore 8, 2) := by decide +kernel
theorem dL_tick_283 : decode cL_tick 283 = .ok (.iload 8, 2) := by decide +kernel
theorem dL_tick_285 : decode cL_tick 285 = .ok (.bipush 32, 2) := by decide +kernel
theorem dL_tick_287 : decode cL_tick 287 = .ok (.if_icmp .ge 57, 3) := by decide +kernel
theorem dL_tick_290 : decode cL_tick 290 = .ok (.iload 5, 2) := by decide +kernel
theorem dL_tick_292 : decode cL_tick 292 = .ok (.aload_n 1, 1) := by decide +kernel
theorem dL_tick_293 : decode cL_tick 293 = .ok (.bipush 12, 2) := by decide +kernel
theorem dL_tick_295 : decode cL_tick 295 = .ok (.iload 7, 2) := by decide +kernel
theorem dL_tick_297 : decode cL_tick 297 = .ok (.imul, 1) := by decide +kernel
theorem dL_tick_298 : decode cL_tick 298 = .ok (.bipush 8, 2) := by decide +kernel
theorem dL_tick_300 : decode cL_tick 300 = .ok (.iadd, 1) := by decide +kernel
theorem dL_tick_301 : decode cL_tick 301 = .ok (.iaload, 1) := by decide +kernel
theorem dL_tick_302 : decode cL_tick 302 = .ok (.ifCond .ne 32, 3) := by decide +kernel
theorem dL_tick_305 : decode cL_tick 305 = .ok (.iload 7, 2) := by decide +kernel
theorem dL_tick_307 : decode cL_tick 307 = .ok (.iload 8, 2) := by decide +kernel
theorem dL_tick_309 : decode cL_tick 309 = .ok (.aload_n 2, 1) := by decide +kernel
theorem dL_tick_310 : decode cL_tick 310 = .ok (.aload_n 3, 1) := by decide +kernel
theorem dL_tick_311 : decode cL_tick 311 = .ok (.invokestatic 27, 3) := by decide +kernel
theorem dL_tick_314 : decode cL_tick 314 = .ok (.aload_n 1, 1) := by decide +kernel
theorem dL_tick_315 : decode cL_tick 315 = .ok (.bipush 12, 2) := by decide +kernel
theorem dL_tick_317 : decode cL_tick 317 = .ok (.iload 7, 2) := by decide +kernel
theorem dL_tick_319 : decode cL_tick 319 = .ok (.imul, 1) := by decide +kernel
theorem dL_tick_320 : decode cL_tick 320 = .ok (.bipush 6, 2) := by decide +kernel
theorem dL_tick_322 : decode cL_tick 322 = .ok (.iadd, 1) := by decide +kernel
theorem dL_tick_323 : decode cL_tick 323 = .ok (.iaload, 1) := by decide +kernel
theorem dL_tick_324 : decode cL_tick 324 = .ok (.if_icmp .lt 10, 3) := by decide +kernel
theorem dL_tick_327 : decode cL_tick 327 = .ok (.iconst 1, 1) := by decide +kernel
theorem dL_tick_328 : decode cL_tick 328 = .ok (.iload 7, 2) := by decide +kernel
theorem dL_tick_330 : decode cL_tick 330 = .ok (.ishl, 1) := by decide +kernel
theorem dL_tick_331 : decode cL_tick 331 = .ok (.goto 4, 3) := by decide +kernel
theorem dL_tick_334 : decode cL_tick 334 = .ok (.iconst 0, 1) := by decide +kernel
theorem dL_tick_335 : decode cL_tick 335 = .ok (.ior, 1) := by decide +kernel
theorem dL_tick_336 : decode cL_tick 336 = .ok (.istore 5, 2) := by decide +kernel
theorem dL_tick_338 : decode cL_tick 338 = .ok (.iinc 8 1, 3) := by decide +kernel
theorem dL_tick_341 : decode cL_tick 341 = .ok (.goto (-58), 3) := by decide +kernel
theorem dL_tick_344 : decode cL_tick 344 = .ok (.iinc 7 1, 3) := by decide +kernel
theorem dL_tick_347 : decode cL_tick 347 = .ok (.goto (-75), 3) := by decide +kernel
theorem dL_tick_350 : decode cL_tick 350 = .ok (.iconst 0, 1) := by decide +kernel
theorem dL_tick_351 : decode cL_tick 351 = .ok (.istore 7, 2) := by decide +kernel
theorem dL_tick_353 : decode cL_tick 353 = .ok (.iload 7, 2) := by decide +kernel
theorem dL_tick_355 : decode cL_tick 355 = .ok (.aload_n 0, 1) := by decide +kernel
theorem dL_tick_356 : decode cL_tick 356 = .ok (.iconst 0, 1) := by decide +kernel
theorem dL_tick_357 : decode cL_tick 357 = .ok (.iaload, 1) := by decide +kernel
theorem dL_tick_358 : decode cL_tick 358 = .ok (.if_icmp .ge 125, 3) := by decide +kernel
theorem dL_tick_361 : decode cL_tick 361 = .ok (.iload 5, 2) := by decide +kernel
theorem dL_tick_363 : decode cL_tick 363 = .ok (.iload 7, 2) := by decide +kernel
theorem dL_tick_365 : decode cL_tick 365 = .ok (.ishr, 1) := by decide +kernel
theorem dL_tick_366 : decode cL_tick 366 = .ok (.iconst 1, 1) := by decide +kernel
theorem dL_tick_367 : decode cL_tick 367 = .ok (.iand, 1) := by decide +kernel
theorem dL_tick_368 : decode cL_tick 368 = .ok (.ifCond .ne 6, 3) := by decide +kernel
theorem dL_tick_371 : decode cL_tick 371 = .ok (.goto 106, 3) := by decide +kernel
theorem dL_tick_374 : decode cL_tick 374 = .ok (.aload_n 1, 1) := by decide +kernel
theorem dL_tick_375 : decode cL_tick 375 = .ok (.bipush 12, 2) := by decide +kernel
theorem dL_tick_377 : decode cL_tick 377 = .ok (.iload 7, 2) := by decide +kernel
theorem dL_tick_379 : decode cL_tick 379 = .ok (.imul, 1) := by decide +kernel
theorem dL_tick_380 : decode cL_tick 380 = .ok (.bipush 8, 2) := by decide +kernel
theorem dL_tick_382 : decode cL_tick 382 = .ok (.iadd, 1) := by decide +kernel
theorem dL_tick_383 : decode cL_tick 383 = .ok (.iconst 1, 1) := by decide +kernel
theorem dL_tick_384 : decode cL_tick 384 = .ok (.iastore, 1) := by decide +kernel
theorem dL_tick_385 : decode cL_tick 385 = .ok (.aload_n 0, 1) := by decide +kernel
theorem dL_tick_386 : decode cL_tick 386 = .ok (.iconst 3, 1) := by decide +kernel
theorem dL_tick_387 : decode cL_tick 387 = .ok (.dup2, 1) := by decide +kernel
theorem dL_tick_388 : decode cL_tick 388 = .ok (.iaload, 1) := by decide +kernel
theorem dL_tick_389 : decode cL_tick 389 = .ok (.iconst 1, 1) := by decide +kernel
theorem dL_tick_390 : decode cL_tick 390 = .ok (.iadd, 1) := by decide +kernel
theorem dL_tick_391 : decode cL_tick 391 = .ok (.iastore, 1) := by decide +kernel
theorem dL_tick_392 : decode cL_tick 392 = .ok (.iconst 0, 1) := by decide +kernel
theorem dL_tick_393 : decode cL_tick 393 = .ok (.istore 8, 2) := by decide +kernel
theorem dL_tick_395 : decode cL_tick 395 = .ok (.iload 8, 2) := by decide +kernel
theorem dL_tick_397 : decode cL_tick 397 = .ok (.aload_n 0, 1) := by decide +kernel
theorem dL_tick_398 : decode cL_tick 398 = .ok (.iconst 0, 1) := by decide +kernel
theorem dL_tick_399 : decode cL_tick 399 = .ok (.iaload, 1) := by decide +kernel
theorem dL_tick_400 : decode cL_tick 400 = .ok (.if_icmp .ge 77, 3) := by decide +kernel
theorem dL_tick_403 : decode cL_tick 403 = .ok (.aload 4, 2) := by decide +kernel
theorem dL_tick_405 : decode cL_tick 405 = .ok (.iconst 4, 1) := by decide +kernel
theorem dL_tick_406 : decode cL_tick 406 = .ok (.iload 7, 2) := by decide +kernel
theorem dL_tick_408 : decode cL_tick 408 = .ok (.imul, 1) := by decide +kernel
theorem dL_tick_409 : decode cL_tick 409 = .ok (.iload 8, 2) := by decide +kernel
theorem dL_tick_411 : decode cL_tick 411 = .ok (.iadd, 1) := by decide +kernel
theorem dL_tick_412 : decode cL_tick 412 = .ok (.iaload, 1) := by decide +kernel
theorem dL_tick_413 : decode cL_tick 413 = .ok (.istore 9, 2) := by decide +kernel
theorem dL_tick_415 : decode cL_tick 415 = .ok (.iload 9, 2) := by decide +kernel
theorem dL_tick_417 : decode cL_tick 417 = .ok (.ifCond .lt 54, 3) := by decide +kernel
theorem dL_tick_420 : decode cL_tick 420 = .ok (.iload 7, 2) := by decide +kernel
theorem dL_tick_422 : decode cL_tick 422 = .ok (.iload 9, 2) := by decide +kernel
theorem dL_tick_424 : decode cL_tick 424 = .ok (.bipush 64, 2) := by decide +kernel
theorem dL_tick_426 : decode cL_tick 426 = .ok (.irem, 1) := by decide +kernel
theorem dL_tick_427 : decode cL_tick 427 = .ok (.aload_n 2, 1) := by decide +kernel
theorem dL_tick_428 : decode cL_tick 428 = .ok (.aload_n 3, 1) := by decide +kernel
theorem dL_tick_429 : decode cL_tick 429 = .ok (.invokestatic 27, 3) := by decide +kernel
theorem dL_tick_432 : decode cL_tick 432 = .ok (.aload_n 1, 1) := by decide +kernel
theorem dL_tick_433 : decode cL_tick 433 = .ok (.bipush 12, 2) := by decide +kernel
theorem dL_tick_435 : decode cL_tick 435 = .ok (.iload 7, 2) := by decide +kernel
theorem dL_tick_437 : decode cL_tick 437 = .ok (.imul, 1) := by decide +kernel
theorem dL_tick_438 : decode cL_tick 438 = .ok (.bipush 6, 2) := by decide +kernel
theorem dL_tick_440 : decode cL_tick 440 = .ok (.iadd, 1) := by decide +kernel
theorem dL_tick_441 : decode cL_tick 441 = .ok (.iaload, 1) := by decide +kernel
theorem dL_tick_442 : decode cL_tick 442 = .ok (.if_icmp .ge 6, 3) := by decide +kernel
theorem dL_tick_445 : decode cL_tick 445 = .ok (.goto 26, 3) := by decide +kernel
theorem dL_tick_448 : decode cL_tick 448 = .ok (.aload_n 1, 1) := by decide +kernel
theorem dL_tick_449 : decode cL_tick 449 = .ok (.bipush 12, 2) := by decide +kernel
theorem dL_tick_451 : decode cL_tick 451 = .ok (.iload 8, 2) := by decide +kernel
theorem dL_tick_453 : decode cL_tick 453 = .ok (.imul, 1) := by decide +kernel
theorem dL_tick_454 : decode cL_tick 454 = .ok (.bipush 7, 2) := by decide +kernel
theorem dL_tick_456 : decode cL_tick 456 = .ok (.iadd, 1) := by decide +kernel
theorem dL_tick_457 : decode cL_tick 457 = .ok (.dup2, 1) := by decide +kernel
theorem dL_tick_458 : decode cL_tick 458 = .ok (.iaload, 1) := by decide +kernel
theorem dL_tick_459 : decode cL_tick 459 = .ok (.iconst 1, 1) := by decide +kernel
theorem dL_tick_460 : decode cL_tick 460 = .ok (.iadd, 1) := by decide +kernel
theorem dL_tick_461 : decode cL_tick 461 = .ok (.iastore, 1) := by decide +kernel
theorem dL_tick_462 : decode cL_tick 462 = .ok (.iload 6, 2) := by decide +kernel
theorem dL_tick_464 : decode cL_tick 464 = .ok (.iconst 1, 1) := by decide +kernel
theorem dL_tick_465 : decode cL_tick 465 = .ok (.iload 8, 2) := by decide +kernel
theorem dL_tick_467 : decode cL_tick 467 = .ok (.ishl, 1) := by decide +kernel
theorem dL_tick_468 : decode cL_tick 468 = .ok (.ior, 1) := by decide +kernel
theorem dL_tick_469 : decode cL_tick 469 = .ok (.istore 6, 2) := by decide +kernel
theorem dL_tick_471 : decode cL_tick 471 = .ok (.iinc 8 1, 3) := by decide +kernel
theorem dL_tick_474 : decode cL_tick 474 = .ok (.goto (-79), 3) := by decide +kernel
theorem dL_tick_477 : decode cL_tick 477 = .ok (.iinc 7 1, 3) := by decide +kernel
theorem dL_tick_480 : decode cL_tick 480 = .ok (.goto (-127), 3) := by decide +kernel
theorem dL_tick_483 : decode cL_tick 483 = .ok (.aload_n 0, 1) := by decide +kernel
theorem dL_tick_484 : decode cL_tick 484 = .ok (.iconst 2, 1) := by decide +kernel
theorem dL_tick_485 : decode cL_tick 485 = .ok (.dup2, 1) := by decide +kernel
theorem dL_tick_486 : decode cL_tick 486 = .ok (.iaload, 1) := by decide +kernel
theorem dL_tick_487 : decode cL_tick 487 = .ok (.iconst 1, 1) := by decide +kernel
theorem dL_tick_488 : decode cL_tick 488 = .ok (.iadd, 1) := by decide +kernel
theorem dL_tick_489 : decode cL_tick 489 = .ok (.iastore, 1) := by decide +kernel
theorem dL_tick_490 : decode cL_tick 490 = .ok (.iload 5, 2) := by decide +kernel
theorem dL_tick_492 : decode cL_tick 492 = .ok (.bipush 100, 2) := by decide +kernel
theorem dL_tick_494 : decode cL_tick 494 = .ok (.iload 6, 2) := by decide +kernel
theorem dL_tick_496 : decode cL_tick 496 = .ok (.imul, 1) := by decide +kernel
theorem dL_tick_497 : decode cL_tick 497 = .ok (.iadd, 1) := by decide +kernel
theorem dL_tick_498 : decode cL_tick 498 = .ok (.ireturn, 1) := by decide +kernel
theorem dL_copy_0 : decode cL_copy 0 = .ok (.iconst 0, 1) := by decide +kernel
theorem dL_copy_1 : decode cL_copy 1 = .ok (.istore_n 3, 1) := by decide +kernel
theorem dL_copy_2 : decode cL_copy 2 = .ok (.iload_n 3, 1) := by decide +kernel
theorem dL_copy_3 : decode cL_copy 3 = .ok (.iload_n 2, 1) := by decide +kernel
theorem dL_copy_4 : decode cL_copy 4 = .ok (.if_icmp .ge 15, 3) := by decide +kernel
theorem dL_copy_7 : decode cL_copy 7 = .ok (.aload_n 1, 1) := by decide +kernel
theorem dL_copy_8 : decode cL_copy 8 = .ok (.iload_n 3, 1) := by decide +kernel
theorem dL_copy_9 : decode cL_copy 9 = .ok (.aload_n 0, 1) := by decide +kernel
theorem dL_copy_10 : decode cL_copy 10 = .ok (.iload_n 3, 1) := by decide +kernel
theorem dL_copy_11 : decode cL_copy 11 = .ok (.iaload, 1) := by decide +kernel
theorem dL_copy_12 : decode cL_copy 12 = .ok (.iastore, 1) := by decide +kernel
theorem dL_copy_13 : decode cL_copy 13 = .ok (.iinc 3 1, 3) := by decide +kernel
theorem dL_copy_16 : decode cL_copy 16 = .ok (.goto (-14), 3) := by decide +kernel
theorem dL_copy_19 : decode cL_copy 19 = .ok (.return_, 1) := by decide +kernel
theorem dL_same_0 : decode cL_same 0 = .ok (.iconst 0, 1) := by decide +kernel
theorem dL_same_1 : decode cL_same 1 = .ok (.istore 5, 2) := by decide +kernel
theorem dL_same_3 : decode cL_same 3 = .ok (.iconst 0, 1) := by decide +kernel
theorem dL_same_4 : decode cL_same 4 = .ok (.istore 6, 2) := by decide +kernel
theorem dL_same_6 : decode cL_same 6 = .ok (.iconst 0, 1) := by decide +kernel
theorem dL_same_7 : decode cL_same 7 = .ok (.istore 7, 2) := by decide +kernel
theorem dL_same_9 : decode cL_same 9 = .ok (.bipush (-6), 2) := by decide +kernel
theorem dL_same_11 : decode cL_same 11 = .ok (.istore 8, 2) := by decide +kernel
theorem dL_same_13 : decode cL_same 13 = .ok (.iconst 0, 1) := by decide +kernel
theorem dL_same_14 : decode cL_same 14 = .ok (.istore 9, 2) := by decide +kernel
theorem dL_same_16 : decode cL_same 16 = .ok (.iload 9, 2) := by decide +kernel
theorem dL_same_18 : decode cL_same 18 = .ok (.aload_n 1, 1) := by decide +kernel
theorem dL_same_19 : decode cL_same 19 = .ok (.iconst 0, 1) := by decide +kernel
theorem dL_same_20 : decode cL_same 20 = .ok (.iaload, 1) := by decide +kernel
theorem dL_same_21 : decode cL_same 21 = .ok (.if_icmp .ge 585, 3) := by decide +kernel
theorem dL_same_24 : decode cL_same 24 = .ok (.bipush 12, 2) := by decide +kernel
theorem dL_same_26 : decode cL_same 26 = .ok (.iload 9, 2) := by decide +kernel
theorem dL_same_28 : decode cL_same 28 = .ok (.imul, 1) := by decide +kernel
theorem dL_same_29 : decode cL_same 29 = .ok (.istore 10, 2) := by decide +kernel
theorem dL_same_31 : decode cL_same 31 = .ok (.aload_n 2, 1) := by decide +kernel
theorem dL_same_32 : decode cL_same 32 = .ok (.iload 10, 2) := by decide +kernel
theorem dL_same_34 : decode cL_same 34 = .ok (.bipush 8, 2) := by decide +kernel
theorem dL_same_36 : decode cL_same 36 = .ok (.iadd, 1) := by decide +kernel
theorem dL_same_37 : decode cL_same 37 = .ok (.iaload, 1) := by decide +kernel
theorem dL_same_38 : decode cL_same 38 = .ok (.ifCond .ne 7, 3) := by decide +kernel
theorem dL_same_41 : decode cL_same 41 = .ok (.iconst 1, 1) := by decide +kernel
theorem dL_same_42 : decode cL_same 42 = .ok (.goto 4, 3) := by decide +kernel
theorem dL_same_45 : decode cL_same 45 = .ok (.iconst 0, 1) := by decide +kernel
theorem dL_same_46 : decode cL_same 46 = .ok (.istore 11, 2) := by decide +kernel
theorem dL_same_48 : decode cL_same 48 = .ok (.iconst 0, 1) := by decide +kernel
theorem dL_same_49 : decode cL_same 49 = .ok (.istore 12, 2) := by decide +kernel
theorem dL_same_51 : decode cL_same 51 = .ok (.iconst 0, 1) := by decide +kernel
theorem dL_same_52 : decode cL_same 52 = .ok (.istore 13, 2) := by decide +kernel
theorem dL_same_54 : decode cL_same 54 = .ok (.iconst 0, 1) := by decide +kernel
theorem dL_same_55 : decode cL_same 55 = .ok (.istore 14, 2) := by decide +kernel
theorem dL_same_57 : decode cL_same 57 = .ok (.bipush 31, 2) := by decide +kernel
theorem dL_same_59 : decode cL_same 59 = .ok (.istore 15, 2) := by decide +kernel
theorem dL_same_61 : decode cL_same 61 = .ok (.iload 15, 2) := by decide +kernel
theorem dL_same_63 : decode cL_same 63 = .ok (.ifCond .lt 78, 3) := by decide +kernel
theorem dL_same_66 : decode cL_same 66 = .ok (.iload 9, 2) := by decide +kernel
theorem dL_same_68 : decode cL_same 68 = .ok (.iload 15, 2) := by decide +kernel
theorem dL_same_70 : decode cL_same 70 = .ok (.aload_n 3, 1) := by decide +kernel
theorem dL_same_71 : decode cL_same 71 = .ok (.aload 4, 2) := by decide +kernel
theorem dL_same_73 : decode cL_same 73 = .ok (.invokestatic 27, 3) := by decide +kernel
theorem dL_same_76 : decode cL_same 76 = .ok (.istore 16, 2) := by decide +kernel
theorem dL_same_78 : decode cL_same 78 = .ok (.iload 16, 2) := by decide +kernel
theorem dL_same_80 : decode cL_same 80 = .ok (.iload 12, 2) := by decide +kernel
theorem dL_same_82 : decode cL_same 82 = .ok (.if_icmp .lt 8, 3) := by decide +kernel
theorem dL_same_85 : decode cL_same 85 = .ok (.iload 15, 2) := by decide +kernel
theorem dL_same_87 : decode cL_same 87 = .ok (.goto 5, 3) := by decide +kernel
theorem dL_same_90 : decode cL_same 90 = .ok (.iload 13, 2) := by decide +kernel
theorem dL_same_92 : decode cL_same 92 = .ok (.istore 13, 2) := by decide +kernel
theorem dL_same_94 : decode cL_same 94 = .ok (.iload 16, 2) := by decide +kernel
theorem dL_same_96 : decode cL_same 96 = .ok (.iload 12, 2) := by decide +kernel
theorem dL_same_98 : decode cL_same 98 = .ok (.if_icmp .le 8, 3) := by decide +kernel
theorem dL_same_101 : decode cL_same 101 = .ok (.iload 16, 2) := by decide +kernel
theorem dL_same_103 : decode cL_same 103 = .ok (.goto 5, 3) := by decide +kernel
theorem dL_same_106 : decode cL_same 106 = .ok (.iload 12, 2) := by decide +kernel
theorem dL_same_108 : decode cL_same 108 = .ok (.istore 12, 2) := by decide +kernel
theorem dL_same_110 : decode cL_same 110 = .ok (.aload_n 0, 1) := by decide +kernel
theorem dL_same_111 : decode cL_same 111 = .ok (.iload 9, 2) := by decide +kernel
theorem dL_same_113 : decode cL_same 113 = .ok (.iload 15, 2) := by decide +kernel
theorem dL_same_115 : decode cL_same 115 = .ok (.invokevirtual 31, 3) := by decide +kernel
theorem dL_same_118 : decode cL_same 118 = .ok (.iload 11, 2) := by decide +kernel
theorem dL_same_120 : decode cL_same 120 = .ok (.ifCond .eq 8, 3) := by decide +kernel
theorem dL_same_123 : decode cL_same 123 = .ok (.iload 16, 2) := by decide +kernel
theorem dL_same_125 : decode cL_same 125 = .ok (.goto 5, 3) := by decide +kernel
theorem dL_same_128 : decode cL_same 128 = .ok (.bipush (-5), 2) := by decide +kernel
theorem dL_same_130 : decode cL_same 130 = .ok (.if_icmp .eq 5, 3) := by decide +kernel
theorem dL_same_133 : decode cL_same 133 = .ok (.iconst 0, 1) := by decide +kernel
theorem dL_same_134 : decode cL_same 134 = .ok (.ireturn, 1) := by decide +kernel
theorem dL_same_135 : decode cL_same 135 = .ok (.iinc 15 (-1), 3) := by decide +kernel
theorem dL_same_138 : decode cL_same 138 = .ok (.goto (-77), 3) := by decide +kernel
theorem dL_same_141 : decode cL_same 141 = .ok (.iconst 0, 1) := by decide +kernel
theorem dL_same_142 : decode cL_same 142 = .ok (.istore 15, 2) := by decide +kernel
theorem dL_same_144 : decode cL_same 144 = .ok (.iload 15, 2) := by decide +kernel
theorem dL_same_146 : decode cL_same 146 = .ok (.aload_n 1, 1) := by decide +kernel
theorem dL_same_147 : decode cL_same 147 = .ok (.iconst 0, 1) := by decide +kernel
theorem dL_same_148 : decode cL_same 148 = .ok (.iaload, 1) := by decide +kernel
theorem dL_same_149 : decode cL_same 149 = .ok (.if_icmp .ge 264, 3) := by decide +kernel
theorem dL_same_152 : decode cL_same 152 = .ok (.iload 15, 2) := by decide +kernel
theorem dL_same_154 : decode cL_same 154 = .ok (.iload 9, 2) := by decide +kernel
theorem dL_same_156 : decode cL_same 156 = .ok (.if_icmp .ne 6, 3) := by decide +kernel
theorem dL_same_159 : decode cL_same 159 = .ok (.goto 248, 3) := by decide +kernel
theorem dL_same_162 : decode cL_same 162 = .ok (.iload 9, 2) := by decide +kernel
theorem dL_same_164 : decode cL_same 164 = .ok (.iload 15, 2) := by decide +kernel
theorem dL_same_166 : decode cL_same 166 = .ok (.aload_n 2, 1) := by decide +kernel
theorem dL_same_167 : decode cL_same 167 = .ok (.invokestatic 16, 3) := by decide +kernel
theorem dL_same_170 : decode cL_same 170 = .ok (.istore 16, 2) := by decide +kernel
theorem dL_same_172 : decode cL_same 172 = .ok (.iload 14, 2) := by decide +kernel
theorem dL_same_174 : decode cL_same 174 = .ok (.iload 16, 2) := by decide +kernel
theorem dL_same_176 : decode cL_same 176 = .ok (.ifCond .ge 7, 3) := by decide +kernel
theorem dL_same_179 : decode cL_same 179 = .ok (.iconst 0, 1) := by decide +kernel
theorem dL_same_180 : decode cL_same 180 = .ok (.goto 7, 3) := by decide +kernel
theorem dL_same_183 : decode cL_same 183 = .ok (.iconst 1, 1) := by decide +kernel
theorem dL_same_184 : decode cL_same 184 = .ok (.iload 15, 2) := by decide +kernel
theorem dL_same_186 : decode cL_same 186 = .ok (.ishl, 1) := by decide +kernel
theorem dL_same_187 : decode cL_same 187 = .ok (.ior, 1) := by decide +kernel
theorem dL_same_188 : decode cL_same 188 = .ok (.istore 14, 2) := by decide +kernel
theorem dL_same_190 : decode cL_same 190 = .ok (.iload 6, 2) := by decide +kernel
theorem dL_same_192 : decode cL_same 192 = .ok (.iload 16, 2) := by decide +kernel
theorem dL_same_194 : decode cL_same 194 = .ok (.ifCond .lt 14, 3) := by decide +kernel
theorem dL_same_197 : decode cL_same 197 = .ok (.iload 15, 2) := by decide +kernel
theorem dL_same_199 : decode cL_same 199 = .ok (.iload 9, 2) := by decide +kernel
theorem dL_same_201 : decode cL_same 201 = .ok (.if_icmp .ge 7, 3) := by decide +kernel
theorem dL_same_204 : decode cL_same 204 = .ok (.iconst 1, 1) := by decide +kernel
theorem dL_same_205 : decode cL_same 205 = .ok (.goto 4, 3) := by decide +kernel
theorem dL_same_208 : decode cL_same 208 = .ok (.iconst 0, 1) := by decide +kernel
theorem dL_same_209 : decode cL_same 209 = .ok (.iadd, 1) := by decide +kernel
theorem dL_same_210 : decode cL_same 210 = .ok (.istore 6, 2) := by decide +kernel
theorem dL_same_212 : decode cL_same 212 = .ok (.iload 11, 2) := by decide +kernel
theorem dL_same_214 : decode cL_same 214 = .ok (.ifCond .eq 193, 3) := by decide +kernel
theorem dL_same_217 : decode cL_same 217 = .ok (.aload_n 2, 1) := by decide +kernel
theorem dL_same_218 : decode cL_same 218 = .ok (.bipush 12, 2) := by decide +kernel
theorem dL_same_220 : decode cL_same 220 = .ok (.iload 15, 2) := by decide +kernel
theorem dL_same_222 : decode cL_same 222 = .ok (.imul, 1) := by decide +kernel
theorem dL_same_223 : decode cL_same 223 = .ok (.bipush 8, 2) := by decide +kernel
theorem dL_same_225 : decode cL_same 225 = .ok (.iadd, 1) := by decide +kernel
theorem dL_same_226 : decode cL_same 226 = .ok (.iaload, 1) := by decide +kernel
theorem dL_same_227 : decode cL_same 227 = .ok (.ifCond .ne 180, 3) := by decide +kernel
theorem dL_same_230 : decode cL_same 230 = .ok (.aload_n 0, 1) := by decide +kernel
theorem dL_same_231 : decode cL_same 231 = .ok (.iload 9, 2) := by decide +kernel
theorem dL_same_233 : decode cL_same 233 = .ok (.iload 15, 2) := by decide +kernel
theorem dL_same_235 : decode cL_same 235 = .ok (.iconst 0, 1) := by decide +kernel
theorem dL_same_236 : decode cL_same 236 = .ok (.invokevirtual 36, 3) := by decide +kernel
theorem dL_same_239 : decode cL_same 239 = .ok (.iload 16, 2) := by decide +kernel
theorem dL_same_241 : decode cL_same 241 = .ok (.ifCond .ge 7, 3) := by decide +kernel
theorem dL_same_244 : decode cL_same 244 = .ok (.iconst 0, 1) := by decide +kernel
theorem dL_same_245 : decode cL_same 245 = .ok (.goto 4, 3) := by decide +kernel
theorem dL_same_248 : decode cL_same 248 = .ok (.iconst 1, 1) := by decide +kernel
theorem dL_same_249 : decode cL_same 249 = .ok (.if_icmp .ne 156, 3) := by decide +kernel
theorem dL_same_252 : decode cL_same 252 = .ok (.aload_n 0, 1) := by decide +kernel
theorem dL_same_253 : decode cL_same 253 = .ok (.iload 9, 2) := by decide +kernel
theorem dL_same_255 : decode cL_same 255 = .ok (.iload 15, 2) := by decide +kernel
theorem dL_same_257 : decode cL_same 257 = .ok (.iconst 1, 1) := by decide +kernel
theorem dL_same_258 : decode cL_same 258 = .ok (.invokevirtual 36, 3) := by decide +kernel
theorem dL_same_261 : decode cL_same 261 = .ok (.iload 16, 2) := by decide +kernel
theorem dL_same_263 : decode cL_same 263 = .ok (.ifCond .ge 8, 3) := by decide +kernel
theorem dL_same_266 : decode cL_same 266 = .ok (.bipush (-6), 2) := by decide +kernel
theorem dL_same_268 : decode cL_same 268 = .ok (.goto 8, 3) := by decide +kernel
theorem dL_same_271 : decode cL_same 271 = .ok (.iload 16, 2) := by decide +kernel
theorem dL_same_273 : decode cL_same 273 = .ok (.bipush 64, 2) := by decide +kernel
theorem dL_same_275 : decode cL_same 275 = .ok (.irem, 1) := by decide +kernel
theorem dL_same_276 : decode cL_same 276 = .ok (.if_icmp .ne 129, 3) := by decide +kernel
theorem dL_same_279 : decode cL_same 279 = .ok (.aload_n 0, 1) := by decide +kernel
theorem dL_same_280 : decode cL_same 280 = .ok (.iload 15, 2) := by decide +kernel
theorem dL_same_282 : decode cL_same 282 = .ok (.iload 9, 2) := by decide +kernel
theorem dL_same_284 : decode cL_same 284 = .ok (.iconst 2, 1) := by decide +kernel
theorem dL_same_285 : decode cL_same 285 = .ok (.invokevirtual 36, 3) := by decide +kernel
theorem dL_same_288 : decode cL_same 288 = .ok (.iload 16, 2) := by decide +kernel
theorem dL_same_290 : decode cL_same 290 = .ok (.ifCond .ge 8, 3) := by decide +kernel
theorem dL_same_293 : decode cL_same 293 = .ok (.bipush (-6), 2) := by decide +kernel
theorem dL_same_295 : decode cL_same 295 = .ok (.goto 8, 3) := by decide +kernel
theorem dL_same_298 : decode cL_same 298 = .ok (.iload 16, 2) := by decide +kernel
theorem dL_same_300 : decode cL_same 300 = .ok (.bipush 64, 2) := by decide +kernel
theorem dL_same_302 : decode cL_same 302 = .ok (.irem, 1) := by decide +kernel
theorem dL_same_303 : decode cL_same 303 = .ok (.if_icmp .ne 102, 3) := by decide +kernel
theorem dL_same_306 : decode cL_same 306 = .ok (.aload_n 0, 1) := by decide +kernel
theorem dL_same_307 : decode cL_same 307 = .ok (.iload 9, 2) := by decide +kernel
theorem dL_same_309 : decode cL_same 309 = .ok (.iload 15, 2) := by decide +kernel
theorem dL_same_311 : decode cL_same 311 = .ok (.iconst 3, 1) := by decide +kernel
theorem dL_same_312 : decode cL_same 312 = .ok (.invokevirtual 36, 3) := by decide +kernel
theorem dL_same_315 : decode cL_same 315 = .ok (.iload 16, 2) := by decide +kernel
theorem dL_same_317 : decode cL_same 317 = .ok (.ifCond .ge 8, 3) := by decide +kernel
theorem dL_same_320 : decode cL_same 320 = .ok (.bipush (-6), 2) := by decide +kernel
theorem dL_same_322 : decode cL_same 322 = .ok (.goto 8, 3) := by decide +kernel
theorem dL_same_325 : decode cL_same 325 = .ok (.iload 16, 2) := by decide +kernel
theorem dL_same_327 : decode cL_same 327 = .ok (.bipush 64, 2) := by decide +kernel
theorem dL_same_329 : decode cL_same 329 = .ok (.idiv, 1) := by decide +kernel
theorem dL_same_330 : decode cL_same 330 = .ok (.if_icmp .ne 75, 3) := by decide +kernel
theorem dL_same_333 : decode cL_same 333 = .ok (.aload_n 0, 1) := by decide +kernel
theorem dL_same_334 : decode cL_same 334 = .ok (.iload 9, 2) := by decide +kernel
theorem dL_same_336 : decode cL_same 336 = .ok (.iload 15, 2) := by decide +kernel
theorem dL_same_338 : decode cL_same 338 = .ok (.iconst 4, 1) := by decide +kernel
theorem dL_same_339 : decode cL_same 339 = .ok (.invokevirtual 36, 3) := by decide +kernel
theorem dL_same_342 : decode cL_same 342 = .ok (.iload 9, 2) := by decide +kernel
theorem dL_same_344 : decode cL_same 344 = .ok (.iload 15, 2) := by decide +kernel
theorem dL_same_346 : decode cL_same 346 = .ok (.aload_n 2, 1) := by decide +kernel
theorem dL_same_347 : decode cL_same 347 = .ok (.invokestatic 20, 3) := by decide +kernel
theorem dL_same_350 : decode cL_same 350 = .ok (.if_icmp .ne 55, 3) := by decide +kernel
theorem dL_same_353 : decode cL_same 353 = .ok (.aload_n 0, 1) := by decide +kernel
theorem dL_same_354 : decode cL_same 354 = .ok (.iload 9, 2) := by decide +kernel
theorem dL_same_356 : decode cL_same 356 = .ok (.iload 15, 2) := by decide +kernel
theorem dL_same_358 : decode cL_same 358 = .ok (.iconst 5, 1) := by decide +kernel
theorem dL_same_359 : decode cL_same 359 = .ok (.invokevirtual 36, 3) := by decide +kernel
theorem dL_same_362 : decode cL_same 362 = .ok (.iload 16, 2) := by decide +kernel
theorem dL_same_364 : decode cL_same 364 = .ok (.ifCond .ge 7, 3) := by decide +kernel
theorem dL_same_367 : decode cL_same 367 = .ok (.iconst 0, 1) := by decide +kernel
theorem dL_same_368 : decode cL_same 368 = .ok (.goto 34, 3) := by decide +kernel
theorem dL_same_371 : decode cL_same 371 = .ok (.aload_n 2, 1) := by decide +kernel
theorem dL_same_372 : decode cL_same 372 = .ok (.bipush 12, 2) := by decide +kernel
theorem dL_same_374 : decode cL_same 374 = .ok (.iload 15, 2) := by decide +kernel
theorem dL_same_376 : decode cL_same 376 = .ok (.imul, 1) := by decide +kernel
theorem dL_same_377 : decode cL_same 377 = .ok (.iconst 5, 1) := by decide +kernel
theorem dL_same_378 : decode cL_same 378 = .ok (.iadd, 1) := by decide +kernel
theorem dL_same_379 : decode cL_same 379 = .ok (.iaload, 1) := by decide +kernel
theorem dL_same_380 : decode cL_same 380 = .ok (.iload 9, 2) := by decide +kernel
theorem dL_same_382 : decode cL_same 382 = .ok (.iload 15, 2) := by decide +kernel
theorem dL_same_384 : decode cL_same 384 = .ok (.aload_n 2, 1) := by decide +kernel
theorem dL_same_385 : decode cL_same 385 = .ok (.invokestatic 20, 3) := by decide +kernel
theorem dL_same_388 : decode cL_same 388 = .ok (.imul, 1) := by decide +kernel
theorem dL_same_389 : decode cL_same 389 = .ok (.iload 16, 2) := by decide +kernel
theorem dL_same_391 : decode cL_same 391 = .ok (.bipush 63, 2) := by decide +kernel
theorem dL_same_393 : decode cL_same 393 = .ok (.if_icmp .le 7, 3) := by decide +kernel
theorem dL_same_396 : decode cL_same 396 = .ok (.iconst 2, 1) := by decide +kernel
theorem dL_same_397 : decode cL_same 397 = .ok (.goto 4, 3) := by decide +kernel
theorem dL_same_400 : decode cL_same 400 = .ok (.iconst 1, 1) := by decide +kernel
theorem dL_same_401 : decode cL_same 401 = .ok (.imul, 1) := by decide +kernel
theorem dL_same_402 : decode cL_same 402 = .ok (.if_icmp .eq 5, 3) := by decide +kernel
theorem dL_same_405 : decode cL_same 405 = .ok (.iconst 0, 1) := by decide +kernel
theorem dL_same_406 : decode cL_same 406 = .ok (.ireturn, 1) := by decide +kernel
theorem dL_same_407 : decode cL_same 407 = .ok (.iinc 15 1, 3) := by decide +kernel
theorem dL_same_410 : decode cL_same 410 = .ok (.goto (-266), 3) := by decide +kernel
theorem dL_same_413 : decode cL_same 413 = .ok (.iload 5, 2) := by decide +kernel
theorem dL_same_415 : decode cL_same 415 = .ok (.iload 11, 2) := by decide +kernel
theorem dL_same_417 : decode cL_same 417 = .ok (.ifCond .eq 10, 3) := by decide +kernel
theorem dL_same_420 : decode cL_same 420 = .ok (.iconst 1, 1) := by decide +kernel
theorem dL_same_421 : decode cL_same 421 = .ok (.iload 9, 2) := by decide +kernel
theorem dL_same_423 : decode cL_same 423 = .ok (.ishl, 1) := by decide +kernel
theorem dL_same_424 : decode cL_same 424 = .ok (.goto 4, 3) := by decide +kernel
theorem dL_same_427 : decode cL_same 427 = .ok (.iconst 0, 1) := by decide +kernel
theorem dL_same_428 : decode cL_same 428 = .ok (.ior, 1) := by decide +kernel
theorem dL_same_429 : decode cL_same 429 = .ok (.istore 5, 2) := by decide +kernel
theorem dL_same_431 : decode cL_same 431 = .ok (.iload 7, 2) := by decide +kernel
theorem dL_same_433 : decode cL_same 433 = .ok (.aload_n 2, 1) := by decide +kernel
theorem dL_same_434 : decode cL_same 434 = .ok (.iload 10, 2) := by decide +kernel
theorem dL_same_436 : decode cL_same 436 = .ok (.bipush 7, 2) := by decide +kernel
theorem dL_same_438 : decode cL_same 438 = .ok (.iadd, 1) := by decide +kernel
theorem dL_same_439 : decode cL_same 439 = .ok (.iaload, 1) := by decide +kernel
theorem dL_same_440 : decode cL_same 440 = .ok (.iadd, 1) := by decide +kernel
theorem dL_same_441 : decode cL_same 441 = .ok (.istore 7, 2) := by decide +kernel
theorem dL_same_443 : decode cL_same 443 = .ok (.iload 8, 2) := by decide +kernel
theorem dL_same_445 : decode cL_same 445 = .ok (.ifCond .lt 23, 3) := by decide +kernel
theorem dL_same_448 : decode cL_same 448 = .ok (.aload_n 2, 1) := by decide +kernel
theorem dL_same_449 : decode cL_same 449 = .ok (.iload 10, 2) := by decide +kernel
theorem dL_same_451 : decode cL_same 451 = .ok (.bipush 7, 2) := by decide +kernel
theorem dL_same_453 : decode cL_same 453 = .ok (.iadd, 1) := by decide +kernel
theorem dL_same_454 : decode cL_same 454 = .ok (.iaload, 1) := by decide +kernel
theorem dL_same_455 : decode cL_same 455 = .ok (.aload_n 2, 1) := by decide +kernel
theorem dL_same_456 : decode cL_same 456 = .ok (.bipush 12, 2) := by decide +kernel
theorem dL_same_458 : decode cL_same 458 = .ok (.iload 8, 2) := by decide +kernel
theorem dL_same_460 : decode cL_same 460 = .ok (.imul, 1) := by decide +kernel
theorem dL_same_461 : decode cL_same 461 = .ok (.bipush 7, 2) := by decide +kernel
theorem dL_same_463 : decode cL_same 463 = .ok (.iadd, 1) := by decide +kernel
theorem dL_same_464 : decode cL_same 464 = .ok (.iaload, 1) := by decide +kernel
theorem dL_same_465 : decode cL_same 465 = .ok (.if_icmp .le 8, 3) := by decide +kernel
theorem dL_same_468 : decode cL_same 468 = .ok (.iload 9, 2) := by decide +kernel
theorem dL_same_470 : decode cL_same 470 = .ok (.goto 5, 3) := by decide +kernel
theorem dL_same_473 : decode cL_same 473 = .ok (.iload 8, 2) := by decide +kernel
theorem dL_same_475 : decode cL_same 475 = .ok (.istore 8, 2) := by decide +kernel
theorem dL_same_477 : decode cL_same 477 = .ok (.iconst 0, 1) := by decide +kernel
theorem dL_same_478 : decode cL_same 478 = .ok (.istore 15, 2) := by decide +kernel
theorem dL_same_480 : decode cL_same 480 = .ok (.iload 15, 2) := by decide +kernel
theorem dL_same_482 : decode cL_same 482 = .ok (.bipush 9, 2) := by decide +kernel
theorem dL_same_484 : decode cL_same 484 = .ok (.if_icmp .ge 48, 3) := by decide +kernel
theorem dL_same_487 : decode cL_same 487 = .ok (.aload_n 0, 1) := by decide +kernel
theorem dL_same_488 : decode cL_same 488 = .ok (.iload 9, 2) := by decide +kernel
theorem dL_same_490 : decode cL_same 490 = .ok (.iload 15, 2) := by decide +kernel
theorem dL_same_492 : decode cL_same 492 = .ok (.invokevirtual 40, 3) := by decide +kernel
theorem dL_same_495 : decode cL_same 495 = .ok (.aload_n 2, 1) := by decide +kernel
theorem dL_same_496 : decode cL_same 496 = .ok (.iload 10, 2) := by decide +kernel
theorem dL_same_498 : decode cL_same 498 = .ok (.iload 15, 2) := by decide +kernel
theorem dL_same_500 : decode cL_same 500 = .ok (.iadd, 1) := by decide +kernel
theorem dL_same_501 : decode cL_same 501 = .ok (.iaload, 1) := by decide +kernel
theorem dL_same_502 : decode cL_same 502 = .ok (.iload 15, 2) := by decide +kernel
theorem dL_same_504 : decode cL_same 504 = .ok (.iconst 3, 1) := by decide +kernel
theorem dL_same_505 : decode cL_same 505 = .ok (.if_icmp .eq 9, 3) := by decide +kernel
theorem dL_same_508 : decode cL_same 508 = .ok (.iload 15, 2) := by decide +kernel
theorem dL_same_510 : decode cL_same 510 = .ok (.iconst 4, 1) := by decide +kernel
theorem dL_same_511 : decode cL_same 511 = .ok (.if_icmp .ne 8, 3) := by decide +kernel
theorem dL_same_514 : decode cL_same 514 = .ok (.bipush 10, 2) := by decide +kernel
theorem dL_same_516 : decode cL_same 516 = .ok (.goto 4, 3) := by decide +kernel
theorem dL_same_519 : decode cL_same 519 = .ok (.iconst 0, 1) := by decide +kernel
theorem dL_same_520 : decode cL_same 520 = .ok (.iadd, 1) := by decide +kernel
theorem dL_same_521 : decode cL_same 521 = .ok (.if_icmp .eq 5, 3) := by decide +kernel
theorem dL_same_524 : decode cL_same 524 = .ok (.iconst 0, 1) := by decide +kernel
theorem dL_same_525 : decode cL_same 525 = .ok (.ireturn, 1) := by decide +kernel
theorem dL_same_526 : decode cL_same 526 = .ok (.iinc 15 1, 3) := by decide +kernel
theorem dL_same_529 : decode cL_same 529 = .ok (.goto (-49), 3) := by decide +kernel
theorem dL_same_532 : decode cL_same 532 = .ok (.aload_n 0, 1) := by decide +kernel
theorem dL_same_533 : decode cL_same 533 = .ok (.iload 9, 2) := by decide +kernel
theorem dL_same_535 : decode cL_same 535 = .ok (.bipush 9, 2) := by decide +kernel
theorem dL_same_537 : decode cL_same 537 = .ok (.invokevirtual 40, 3) := by decide +kernel
theorem dL_same_540 : decode cL_same 540 = .ok (.iload 11, 2) := by decide +kernel
theorem dL_same_542 : decode cL_same 542 = .ok (.ifCond .eq 8, 3) := by decide +kernel
theorem dL_same_545 : decode cL_same 545 = .ok (.iload 12, 2) := by decide +kernel
theorem dL_same_547 : decode cL_same 547 = .ok (.goto 4, 3) := by decide +kernel
theorem dL_same_550 : decode cL_same 550 = .ok (.iconst 0, 1) := by decide +kernel
theorem dL_same_551 : decode cL_same 551 = .ok (.if_icmp .ne 47, 3) := by decide +kernel
theorem dL_same_554 : decode cL_same 554 = .ok (.aload_n 0, 1) := by decide +kernel
theorem dL_same_555 : decode cL_same 555 = .ok (.iload 9, 2) := by decide +kernel
theorem dL_same_557 : decode cL_same 557 = .ok (.bipush 10, 2) := by decide +kernel
theorem dL_same_559 : decode cL_same 559 = .ok (.invokevirtual 40, 3) := by decide +kernel
theorem dL_same_562 : decode cL_same 562 = .ok (.iload 11, 2) := by decide +kernel
theorem dL_same_564 : decode cL_same 564 = .ok (.ifCond .eq 8, 3) := by decide +kernel
theorem dL_same_567 : decode cL_same 567 = .ok (.iload 13, 2) := by decide +kernel
theorem dL_same_569 : decode cL_same 569 = .ok (.goto 4, 3) := by decide +kernel
theorem dL_same_572 : decode cL_same 572 = .ok (.iconst 0, 1) := by decide +kernel
theorem dL_same_573 : decode cL_same 573 = .ok (.if_icmp .ne 25, 3) := by decide +kernel
theorem dL_same_576 : decode cL_same 576 = .ok (.aload_n 0, 1) := by decide +kernel
theorem dL_same_577 : decode cL_same 577 = .ok (.iload 9, 2) := by decide +kernel
theorem dL_same_579 : decode cL_same 579 = .ok (.bipush 11, 2) := by decide +kernel
theorem dL_same_581 : decode cL_same 581 = .ok (.invokevirtual 40, 3) := by decide +kernel
theorem dL_same_584 : decode cL_same 584 = .ok (.iload 11, 2) := by decide +kernel
theorem dL_same_586 : decode cL_same 586 = .ok (.ifCond .eq 8, 3) := by decide +kernel
theorem dL_same_589 : decode cL_same 589 = .ok (.iload 14, 2) := by decide +kernel
theorem dL_same_591 : decode cL_same 591 = .ok (.goto 4, 3) := by decide +kernel
theorem dL_same_594 : decode cL_same 594 = .ok (.iconst 0, 1) := by decide +kernel
theorem dL_same_595 : decode cL_same 595 = .ok (.if_icmp .eq 5, 3) := by decide +kernel
theorem dL_same_598 : decode cL_same 598 = .ok (.iconst 0, 1) := by decide +kernel
theorem dL_same_599 : decode cL_same 599 = .ok (.ireturn, 1) := by decide +kernel
theorem dL_same_600 : decode cL_same 600 = .ok (.iinc 9 1, 3) := by decide +kernel
theorem dL_same_603 : decode cL_same 603 = .ok (.goto (-587), 3) := by decide +kernel
theorem dL_same_606 : decode cL_same 606 = .ok (.aload_n 0, 1) := by decide +kernel
theorem dL_same_607 : decode cL_same 607 = .ok (.iconst 0, 1) := by decide +kernel
theorem dL_same_608 : decode cL_same 608 = .ok (.invokevirtual 43, 3) := by decide +kernel
theorem dL_same_611 : decode cL_same 611 = .ok (.aload_n 1, 1) := by decide +kernel
theorem dL_same_612 : decode cL_same 612 = .ok (.iconst 0, 1) := by decide +kernel
theorem dL_same_613 : decode cL_same 613 = .ok (.iaload, 1) := by decide +kernel
theorem dL_same_614 : decode cL_same 614 = .ok (.if_icmp .ne 82, 3) := by decide +kernel
theorem dL_same_617 : decode cL_same 617 = .ok (.aload_n 0, 1) := by decide +kernel
theorem dL_same_618 : decode cL_same 618 = .ok (.iconst 1, 1) := by decide +kernel
theorem dL_same_619 : decode cL_same 619 = .ok (.invokevirtual 43, 3) := by decide +kernel
theorem dL_same_622 : decode cL_same 622 = .ok (.iload 5, 2) := by decide +kernel
theorem dL_same_624 : decode cL_same 624 = .ok (.if_icmp .ne 72, 3) := by decide +kernel
theorem dL_same_627 : decode cL_same 627 = .ok (.aload_n 0, 1) := by decide +kernel
theorem dL_same_628 : decode cL_same 628 = .ok (.iconst 2, 1) := by decide +kernel
theorem dL_same_629 : decode cL_same 629 = .ok (.invokevirtual 43, 3) := by decide +kernel
theorem dL_same_632 : decode cL_same 632 = .ok (.iload 6, 2) := by decide +kernel
theorem dL_same_634 : decode cL_same 634 = .ok (.if_icmp .ne 62, 3) := by decide +kernel
theorem dL_same_637 : decode cL_same 637 = .ok (.aload_n 0, 1) := by decide +kernel
theorem dL_same_638 : decode cL_same 638 = .ok (.iconst 3, 1) := by decide +kernel
theorem dL_same_639 : decode cL_same 639 = .ok (.invokevirtual 43, 3) := by decide +kernel
theorem dL_same_642 : decode cL_same 642 = .ok (.aload_n 1, 1) := by decide +kernel
theorem dL_same_643 : decode cL_same 643 = .ok (.iconst 2, 1) := by decide +kernel
theorem dL_same_644 : decode cL_same 644 = .ok (.iaload, 1) := by decide +kernel
theorem dL_same_645 : decode cL_same 645 = .ok (.if_icmp .ne 51, 3) := by decide +kernel
theorem dL_same_648 : decode cL_same 648 = .ok (.aload_n 0, 1) := by decide +kernel
theorem dL_same_649 : decode cL_same 649 = .ok (.iconst 4, 1) := by decide +kernel
theorem dL_same_650 : decode cL_same 650 = .ok (.invokevirtual 43, 3) := by decide +kernel
theorem dL_same_653 : decode cL_same 653 = .ok (.aload_n 1, 1) := by decide +kernel
theorem dL_same_654 : decode cL_same 654 = .ok (.iconst 1, 1) := by decide +kernel
theorem dL_same_655 : decode cL_same 655 = .ok (.iaload, 1) := by decide +kernel
theorem dL_same_656 : decode cL_same 656 = .ok (.if_icmp .ne 40, 3) := by decide +kernel
theorem dL_same_659 : decode cL_same 659 = .ok (.aload_n 0, 1) := by decide +kernel
theorem dL_same_660 : decode cL_same 660 = .ok (.iconst 5, 1) := by decide +kernel
theorem dL_same_661 : decode cL_same 661 = .ok (.invokevirtual 43, 3) := by decide +kernel
theorem dL_same_664 : decode cL_same 664 = .ok (.iload 8, 2) := by decide +kernel
theorem dL_same_666 : decode cL_same 666 = .ok (.if_icmp .ne 30, 3) := by decide +kernel
theorem dL_same_669 : decode cL_same 669 = .ok (.aload_n 0, 1) := by decide +kernel
theorem dL_same_670 : decode cL_same 670 = .ok (.bipush 6, 2) := by decide +kernel
theorem dL_same_672 : decode cL_same 672 = .ok (.invokevirtual 43, 3) := by decide +kernel
theorem dL_same_675 : decode cL_same 675 = .ok (.iload 7, 2) := by decide +kernel
theorem dL_same_677 : decode cL_same 677 = .ok (.if_icmp .ne 19, 3) := by decide +kernel
theorem dL_same_680 : decode cL_same 680 = .ok (.aload_n 0, 1) := by decide +kernel
theorem dL_same_681 : decode cL_same 681 = .ok (.bipush 7, 2) := by decide +kernel
theorem dL_same_683 : decode cL_same 683 = .ok (.invokevirtual 43, 3) := by decide +kernel
theorem dL_same_686 : decode cL_same 686 = .ok (.aload_n 1, 1) := by decide +kernel
theorem dL_same_687 : decode cL_same 687 = .ok (.iconst 3, 1) := by decide +kernel
theorem dL_same_688 : decode cL_same 688 = .ok (.iaload, 1) := by decide +kernel
theorem dL_same_689 : decode cL_same 689 = .ok (.if_icmp .ne 7, 3) := by decide +kernel
theorem dL_same_692 : decode cL_same 692 = .ok (.iconst 1, 1) := by decide +kernel
theorem dL_same_693 : decode cL_same 693 = .ok (.goto 4, 3) := by decide +kernel
theorem dL_same_696 : decode cL_same 696 = .ok (.iconst 0, 1) := by decide +kernel
theorem dL_same_697 : decode cL_same 697 = .ok (.ireturn, 1) := by decide +kernel
theorem dL_would_0 : decode cL_would 0 = .ok (.aload_n 2, 1) := by decide +kernel
theorem dL_would_1 : decode cL_would 1 = .ok (.aload 7, 2) := by decide +kernel
theorem dL_would_3 : decode cL_would 3 = .ok (.iconst 4, 1) := by decide +kernel
theorem dL_would_4 : decode cL_would 4 = .ok (.invokestatic 46, 3) := by decide +kernel
theorem dL_would_7 : decode cL_would 7 = .ok (.aload_n 3, 1) := by decide +kernel
theorem dL_would_8 : decode cL_would 8 = .ok (.aload 8, 2) := by decide +kernel
theorem dL_would_10 : decode cL_would 10 = .ok (.bipush 48, 2) := by decide +kernel
theorem dL_would_12 : decode cL_would 12 = .ok (.invokestatic 46, 3) := by decide +kernel
theorem dL_would_15 : decode cL_would 15 = .ok (.aload 4, 2) := by decide +kernel
theorem dL_would_17 : decode cL_would 17 = .ok (.aload 9, 2) := by decide +kernel
theorem dL_would_19 : decode cL_would 19 = .ok (.bipush 64, 2) := by decide +kernel
theorem dL_would_21 : decode cL_would 21 = .ok (.invokestatic 46, 3) := by decide +kernel
theorem dL_would_24 : decode cL_would 24 = .ok (.aload 5, 2) := by decide +kernel
theorem dL_would_26 : decode cL_would 26 = .ok (.aload 10, 2) := by decide +kernel
theorem dL_would_28 : decode cL_would 28 = .ok (.bipush 64, 2) := by decide +kernel
theorem dL_would_30 : decode cL_would 30 = .ok (.invokestatic 46, 3) := by decide +kernel
theorem dL_would_33 : decode cL_would 33 = .ok (.iload_n 1, 1) := by decide +kernel
theorem dL_would_34 : decode cL_would 34 = .ok (.aload_n 2, 1) := by decide +kernel
theorem dL_would_35 : decode cL_would 35 = .ok (.iconst 0, 1) := by decide +kernel
theorem dL_would_36 : decode cL_would 36 = .ok (.iaload, 1) := by decide +kernel
theorem dL_would_37 : decode cL_would 37 = .ok (.invokestatic 50, 3) := by decide +kernel
theorem dL_would_40 : decode cL_would 40 = .ok (.istore 11, 2) := by decide +kernel
theorem dL_would_42 : decode cL_would 42 = .ok (.iload 11, 2) := by decide +kernel
theorem dL_would_44 : decode cL_would 44 = .ok (.iconst 1, 1) := by decide +kernel
theorem dL_would_45 : decode cL_would 45 = .ok (.iadd, 1) := by decide +kernel
theorem dL_would_46 : decode cL_would 46 = .ok (.aload_n 2, 1) := by decide +kernel
theorem dL_would_47 : decode cL_would 47 = .ok (.iconst 0, 1) := by decide +kernel
theorem dL_would_48 : decode cL_would 48 = .ok (.iaload, 1) := by decide +kernel
theorem dL_would_49 : decode cL_would 49 = .ok (.irem, 1) := by decide +kernel
theorem dL_would_50 : decode cL_would 50 = .ok (.istore 12, 2) := by decide +kernel
theorem dL_would_52 : decode cL_would 52 = .ok (.iload 11, 2) := by decide +kernel
theorem dL_would_54 : decode cL_would 54 = .ok (.iload 12, 2) := by decide +kernel
theorem dL_would_56 : decode cL_would 56 = .ok (.if_icmp .eq 33, 3) := by decide +kernel
theorem dL_would_59 : decode cL_would 59 = .ok (.aload_n 3, 1) := by decide +kernel
theorem dL_would_60 : decode cL_would 60 = .ok (.bipush 12, 2) := by decide +kernel
theorem dL_would_62 : decode cL_would 62 = .ok (.iload 11, 2) := by decide +kernel
theorem dL_would_64 : decode cL_would 64 = .ok (.imul, 1) := by decide +kernel
theorem dL_would_65 : decode cL_would 65 = .ok (.bipush 8, 2) := by decide +kernel
theorem dL_would_67 : decode cL_would 67 = .ok (.iadd, 1) := by decide +kernel
theorem dL_would_68 : decode cL_would 68 = .ok (.iaload, 1) := by decide +kernel
theorem dL_would_69 : decode cL_would 69 = .ok (.ifCond .ne 20, 3) := by decide +kernel
theorem dL_would_72 : decode cL_would 72 = .ok (.aload_n 3, 1) := by decide +kernel
theorem dL_would_73 : decode cL_would 73 = .ok (.bipush 12, 2) := by decide +kernel
theorem dL_would_75 : decode cL_would 75 = .ok (.iload 12, 2) := by decide +kernel
theorem dL_would_77 : decode cL_would 77 = .ok (.imul, 1) := by decide +kernel
theorem dL_would_78 : decode cL_would 78 = .ok (.bipush 8, 2) := by decide +kernel
theorem dL_would_80 : decode cL_would 80 = .ok (.iadd, 1) := by decide +kernel
theorem dL_would_81 : decode cL_would 81 = .ok (.iaload, 1) := by decide +kernel
theorem dL_would_82 : decode cL_would 82 = .ok (.ifCond .ne 7, 3) := by decide +kernel
theorem dL_would_85 : decode cL_would 85 = .ok (.iconst 1, 1) := by decide +kernel
theorem dL_would_86 : decode cL_would 86 = .ok (.goto 4, 3) := by decide +kernel
theorem dL_would_89 : decode cL_would 89 = .ok (.iconst 0, 1) := by decide +kernel
theorem dL_would_90 : decode cL_would 90 = .ok (.istore 13, 2) := by decide +kernel
theorem dL_would_92 : decode cL_would 92 = .ok (.iload 13, 2) := by decide +kernel
theorem dL_would_94 : decode cL_would 94 = .ok (.ifCond .eq 18, 3) := by decide +kernel
theorem dL_would_97 : decode cL_would 97 = .ok (.iload 11, 2) := by decide +kernel
theorem dL_would_99 : decode cL_would 99 = .ok (.iload 12, 2) := by decide +kernel
theorem dL_would_101 : decode cL_would 101 = .ok (.aload_n 3, 1) := by decide +kernel
theorem dL_would_102 : decode cL_would 102 = .ok (.invokestatic 16, 3) := by decide +kernel
theorem dL_would_105 : decode cL_would 105 = .ok (.ifCond .lt 7, 3) := by decide +kernel
theorem dL_would_108 : decode cL_would 108 = .ok (.iconst 0, 1) := by decide +kernel
theorem dL_would_109 : decode cL_would 109 = .ok (.goto 5, 3) := by decide +kernel
theorem dL_would_112 : decode cL_would 112 = .ok (.bipush (-6), 2) := by decide +kernel
theorem dL_would_114 : decode cL_would 114 = .ok (.istore 14, 2) := by decide +kernel
theorem dL_would_116 : decode cL_would 116 = .ok (.iconst 0, 1) := by decide +kernel
theorem dL_would_117 : decode cL_would 117 = .ok (.istore 15, 2) := by decide +kernel
theorem dL_would_119 : decode cL_would 119 = .ok (.bipush (-6), 2) := by decide +kernel
theorem dL_would_121 : decode cL_would 121 = .ok (.istore 16, 2) := by decide +kernel
theorem dL_would_123 : decode cL_would 123 = .ok (.iconst 1, 1) := by decide +kernel
theorem dL_would_124 : decode cL_would 124 = .ok (.iload_n 1, 1) := by decide +kernel
theorem dL_would_125 : decode cL_would 125 = .ok (.iconst 3, 1) := by decide +kernel
theorem dL_would_126 : decode cL_would 126 = .ok (.ishr, 1) := by decide +kernel
theorem dL_would_127 : decode cL_would 127 = .ok (.bipush 60, 2) := by decide +kernel
theorem dL_would_129 : decode cL_would 129 = .ok (.invokestatic 50, 3) := by decide +kernel
theorem dL_would_132 : decode cL_would 132 = .ok (.iadd, 1) := by decide +kernel
theorem dL_would_133 : decode cL_would 133 = .ok (.istore 17, 2) := by decide +kernel
theorem dL_would_135 : decode cL_would 135 = .ok (.iconst 0, 1) := by decide +kernel
theorem dL_would_136 : decode cL_would 136 = .ok (.istore 18, 2) := by decide +kernel
theorem dL_would_138 : decode cL_would 138 = .ok (.iconst 0, 1) := by decide +kernel
theorem dL_would_139 : decode cL_would 139 = .ok (.istore 19, 2) := by decide +kernel
theorem dL_would_141 : decode cL_would 141 = .ok (.iconst 1, 1) := by decide +kernel
theorem dL_would_142 : decode cL_would 142 = .ok (.istore 20, 2) := by decide +kernel
theorem dL_would_144 : decode cL_would 144 = .ok (.iload 20, 2) := by decide +kernel
theorem dL_would_146 : decode cL_would 146 = .ok (.sipush 300, 3) := by decide +kernel
theorem dL_would_149 : decode cL_would 149 = .ok (.if_icmp .gt 144, 3) := by decide +kernel
theorem dL_would_152 : decode cL_would 152 = .ok (.aload 7, 2) := by decide +kernel
theorem dL_would_154 : decode cL_would 154 = .ok (.aload 8, 2) := by decide +kernel
theorem dL_would_156 : decode cL_would 156 = .ok (.aload 9, 2) := by decide +kernel
theorem dL_would_158 : decode cL_would 158 = .ok (.aload 10, 2) := by decide +kernel
theorem dL_would_160 : decode cL_would 160 = .ok (.aload 6, 2) := by decide +kernel
theorem dL_would_162 : decode cL_would 162 = .ok (.invokestatic 53, 3) := by decide +kernel
theorem dL_would_165 : decode cL_would 165 = .ok (.istore 21, 2) := by decide +kernel
theorem dL_would_167 : decode cL_would 167 = .ok (.iload 13, 2) := by decide +kernel
theorem dL_would_169 : decode cL_would 169 = .ok (.ifCond .eq 25, 3) := by decide +kernel
theorem dL_would_172 : decode cL_would 172 = .ok (.iload 14, 2) := by decide +kernel
theorem dL_would_174 : decode cL_would 174 = .ok (.ifCond .ge 20, 3) := by decide +kernel
theorem dL_would_177 : decode cL_would 177 = .ok (.aload 6, 2) := by decide +kernel
theorem dL_would_179 : decode cL_would 179 = .ok (.iconst 4, 1) := by decide +kernel
theorem dL_would_180 : decode cL_would 180 = .ok (.iload 11, 2) := by decide +kernel
theorem dL_would_182 : decode cL_would 182 = .ok (.imul, 1) := by decide +kernel
theorem dL_would_183 : decode cL_would 183 = .ok (.iload 12, 2) := by decide +kernel
theorem dL_would_185 : decode cL_would 185 = .ok (.iadd, 1) := by decide +kernel
theorem dL_would_186 : decode cL_would 186 = .ok (.iaload, 1) := by decide +kernel
theorem dL_would_187 : decode cL_would 187 = .ok (.ifCond .lt 7, 3) := by decide +kernel
theorem dL_would_190 : decode cL_would 190 = .ok (.iload 20, 2) := by decide +kernel
theorem dL_would_192 : decode cL_would 192 = .ok (.istore 14, 2) := by decide +kernel
theorem dL_would_194 : decode cL_would 194 = .ok (.iload 15, 2) := by decide +kernel
theorem dL_would_196 : decode cL_would 196 = .ok (.ifCond .ne 19, 3) := by decide +kernel
theorem dL_would_199 : decode cL_would 199 = .ok (.iload 21, 2) := by decide +kernel
theorem dL_would_201 : decode cL_would 201 = .ok (.bipush 100, 2) := by decide +kernel
theorem dL_would_203 : decode cL_would 203 = .ok (.irem, 1) := by decide +kernel
theorem dL_would_204 : decode cL_would 204 = .ok (.ifCond .le 11, 3) := by decide +kernel
theorem dL_would_207 : decode cL_would 207 = .ok (.iload 21, 2) := by decide +kernel
theorem dL_would_209 : decode cL_would 209 = .ok (.istore 15, 2) := by decide +kernel
theorem dL_would_211 : decode cL_would 211 = .ok (.iload 20, 2) := by decide +kernel
theorem dL_would_213 : decode cL_would 213 = .ok (.istore 16, 2) := by decide +kernel
theorem dL_would_215 : decode cL_would 215 = .ok (.iload 18, 2) := by decide +kernel
theorem dL_would_217 : decode cL_would 217 = .ok (.iload 20, 2) := by decide +kernel
theorem dL_would_219 : decode cL_would 219 = .ok (.iload 17, 2) := by decide +kernel
theorem dL_would_221 : decode cL_would 221 = .ok (.if_icmp .gt 11, 3) := by decide +kernel
theorem dL_would_224 : decode cL_would 224 = .ok (.iload 21, 2) := by decide +kernel
theorem dL_would_226 : decode cL_would 226 = .ok (.bipush 100, 2) := by decide +kernel
theorem dL_would_228 : decode cL_would 228 = .ok (.irem, 1) := by decide +kernel
theorem dL_would_229 : decode cL_would 229 = .ok (.goto 4, 3) := by decide +kernel
theorem dL_would_232 : decode cL_would 232 = .ok (.iconst 0, 1) := by decide +kernel
theorem dL_would_233 : decode cL_would 233 = .ok (.ior, 1) := by decide +kernel
theorem dL_would_234 : decode cL_would 234 = .ok (.istore 18, 2) := by decide +kernel
theorem dL_would_236 : decode cL_would 236 = .ok (.iload 20, 2) := by decide +kernel
theorem dL_would_238 : decode cL_would 238 = .ok (.iload 17, 2) := by decide +kernel
theorem dL_would_240 : decode cL_would 240 = .ok (.if_icmp .ne 47, 3) := by decide +kernel
theorem dL_would_243 : decode cL_would 243 = .ok (.iconst 0, 1) := by decide +kernel
theorem dL_would_244 : decode cL_would 244 = .ok (.istore 22, 2) := by decide +kernel
theorem dL_would_246 : decode cL_would 246 = .ok (.iload 22, 2) := by decide +kernel
theorem dL_would_248 : decode cL_would 248 = .ok (.aload_n 2, 1) := by decide +kernel
theorem dL_would_249 : decode cL_would 249 = .ok (.iconst 0, 1) := by decide +kernel
theorem dL_would_250 : decode cL_would 250 = .ok (.iaload, 1) := by decide +kernel
theorem dL_would_251 : decode cL_would 251 = .ok (.if_icmp .ge 36, 3) := by decide +kernel
theorem dL_would_254 : decode cL_would 254 = .ok (.iload 19, 2) := by decide +kernel
theorem dL_would_256 : decode cL_would 256 = .ok (.aload 8, 2) := by decide +kernel
theorem dL_would_258 : decode cL_would 258 = .ok (.bipush 12, 2) := by decide +kernel
theorem dL_would_260 : decode cL_would 260 = .ok (.iload 22, 2) := by decide +kernel
theorem dL_would_262 : decode cL_would 262 = .ok (.imul, 1) := by decide +kernel
theorem dL_would_263 : decode cL_would 263 = .ok (.bipush 7, 2) := by decide +kernel
theorem dL_would_265 : decode cL_would 265 = .ok (.iadd, 1) := by decide +kernel
theorem dL_would_266 : decode cL_would 266 = .ok (.iaload, 1) := by decide +kernel
theorem dL_would_267 : decode cL_would 267 = .ok (.aload_n 3, 1) := by decide +kernel
theorem dL_would_268 : decode cL_would 268 = .ok (.bipush 12, 2) := by decide +kernel
theorem dL_would_270 : decode cL_would 270 = .ok (.iload 22, 2) := by decide +kernel
theorem dL_would_272 : decode cL_would 272 = .ok (.imul, 1) := by decide +kernel
theorem dL_would_273 : decode cL_would 273 = .ok (.bipush 7, 2) := by decide +kernel
theorem dL_would_275 : decode cL_would 275 = .ok (.iadd, 1) := by decide +kernel
theorem dL_would_276 : decode cL_would 276 = .ok (.iaload, 1) := by decide +kernel
theorem dL_would_277 : decode cL_would 277 = .ok (.isub, 1) := by decide +kernel
theorem dL_would_278 : decode cL_would 278 = .ok (.iadd, 1) := by decide +kernel
theorem dL_would_279 : decode cL_would 279 = .ok (.istore 19, 2) := by decide +kernel
theorem dL_would_281 : decode cL_would 281 = .ok (.iinc 22 1, 3) := by decide +kernel
theorem dL_would_284 : decode cL_would 284 = .ok (.goto (-38), 3) := by decide +kernel
theorem dL_would_287 : decode cL_would 287 = .ok (.iinc 20 1, 3) := by decide +kernel
theorem dL_would_290 : decode cL_would 290 = .ok (.goto (-146), 3) := by decide +kernel
theorem dL_would_293 : decode cL_would 293 = .ok (.iconst 0, 1) := by decide +kernel
theorem dL_would_294 : decode cL_would 294 = .ok (.istore 20, 2) := by decide +kernel
theorem dL_would_296 : decode cL_would 296 = .ok (.iload 15, 2) := by decide +kernel
theorem dL_would_298 : decode cL_would 298 = .ok (.ifCond .le 22, 3) := by decide +kernel
theorem dL_would_301 : decode cL_would 301 = .ok (.iload 15, 2) := by decide +kernel
theorem dL_would_303 : decode cL_would 303 = .ok (.bipush 100, 2) := by decide +kernel
theorem dL_would_305 : decode cL_would 305 = .ok (.irem, 1) := by decide +kernel
theorem dL_would_306 : decode cL_would 306 = .ok (.iload 20, 2) := by decide +kernel
theorem dL_would_308 : decode cL_would 308 = .ok (.ishr, 1) := by decide +kernel
theorem dL_would_309 : decode cL_would 309 = .ok (.iconst 1, 1) := by decide +kernel
theorem dL_would_310 : decode cL_would 310 = .ok (.iand, 1) := by decide +kernel
theorem dL_would_311 : decode cL_would 311 = .ok (.ifCond .ne 9, 3) := by decide +kernel
theorem dL_would_314 : decode cL_would 314 = .ok (.iinc 20 1, 3) := by decide +kernel
theorem dL_would_317 : decode cL_would 317 = .ok (.goto (-21), 3) := by decide +kernel
theorem dL_would_320 : decode cL_would 320 = .ok (.aload_n 0, 1) := by decide +kernel
theorem dL_would_321 : decode cL_would 321 = .ok (.iconst 0, 1) := by decide +kernel
theorem dL_would_322 : decode cL_would 322 = .ok (.invokevirtual 57, 3) := by decide +kernel
theorem dL_would_325 : decode cL_would 325 = .ok (.iload 16, 2) := by decide +kernel
theorem dL_would_327 : decode cL_would 327 = .ok (.if_icmp .ne 70, 3) := by decide +kernel
theorem dL_would_330 : decode cL_would 330 = .ok (.aload_n 0, 1) := by decide +kernel
theorem dL_would_331 : decode cL_would 331 = .ok (.iconst 1, 1) := by decide +kernel
theorem dL_would_332 : decode cL_would 332 = .ok (.invokevirtual 57, 3) := by decide +kernel
theorem dL_would_335 : decode cL_would 335 = .ok (.iload 15, 2) := by decide +kernel
theorem dL_would_337 : decode cL_would 337 = .ok (.ifCond .ne 8, 3) := by decide +kernel
theorem dL_would_340 : decode cL_would 340 = .ok (.bipush (-6), 2) := by decide +kernel
theorem dL_would_342 : decode cL_would 342 = .ok (.goto 5, 3) := by decide +kernel
theorem dL_would_345 : decode cL_would 345 = .ok (.iload 20, 2) := by decide +kernel
theorem dL_would_347 : decode cL_would 347 = .ok (.if_icmp .ne 50, 3) := by decide +kernel
theorem dL_would_350 : decode cL_would 350 = .ok (.aload_n 0, 1) := by decide +kernel
theorem dL_would_351 : decode cL_would 351 = .ok (.iconst 2, 1) := by decide +kernel
theorem dL_would_352 : decode cL_would 352 = .ok (.invokevirtual 57, 3) := by decide +kernel
theorem dL_would_355 : decode cL_would 355 = .ok (.iload 15, 2) := by decide +kernel
theorem dL_would_357 : decode cL_would 357 = .ok (.ifCond .ne 8, 3) := by decide +kernel
theorem dL_would_360 : decode cL_would 360 = .ok (.bipush (-6), 2) := by decide +kernel
theorem dL_would_362 : decode cL_would 362 = .ok (.goto 8, 3) := by decide +kernel
theorem dL_would_365 : decode cL_would 365 = .ok (.iload 15, 2) := by decide +kernel
theorem dL_would_367 : decode cL_would 367 = .ok (.bipush 100, 2) := by decide +kernel
theorem dL_would_369 : decode cL_would 369 = .ok (.idiv, 1) := by decide +kernel
theorem dL_would_370 : decode cL_would 370 = .ok (.if_icmp .ne 27, 3) := by decide +kernel
theorem dL_would_373 : decode cL_would 373 = .ok (.aload_n 0, 1) := by decide +kernel
theorem dL_would_374 : decode cL_would 374 = .ok (.iload 17, 2) := by decide +kernel
theorem dL_would_376 : decode cL_would 376 = .ok (.iconst 0, 1) := by decide +kernel
theorem dL_would_377 : decode cL_would 377 = .ok (.invokevirtual 60, 3) := by decide +kernel
theorem dL_would_380 : decode cL_would 380 = .ok (.iload 18, 2) := by decide +kernel
theorem dL_would_382 : decode cL_would 382 = .ok (.if_icmp .ne 15, 3) := by decide +kernel
theorem dL_would_385 : decode cL_would 385 = .ok (.aload_n 0, 1) := by decide +kernel
theorem dL_would_386 : decode cL_would 386 = .ok (.iload 17, 2) := by decide +kernel
theorem dL_would_388 : decode cL_would 388 = .ok (.iconst 1, 1) := by decide +kernel
theorem dL_would_389 : decode cL_would 389 = .ok (.invokevirtual 60, 3) := by decide +kernel
theorem dL_would_392 : decode cL_would 392 = .ok (.iload 19, 2) := by decide +kernel
theorem dL_would_394 : decode cL_would 394 = .ok (.if_icmp .eq 5, 3) := by decide +kernel
theorem dL_would_397 : decode cL_would 397 = .ok (.iconst 0, 1) := by decide +kernel
theorem dL_would_398 : decode cL_would 398 = .ok (.ireturn, 1) := by decide +kernel
theorem dL_would_399 : decode cL_would 399 = .ok (.iload 13, 2) := by decide +kernel
theorem dL_would_401 : decode cL_would 401 = .ok (.ifCond .eq 29, 3) := by decide +kernel
theorem dL_would_404 : decode cL_would 404 = .ok (.aload_n 0, 1) := by decide +kernel
theorem dL_would_405 : decode cL_would 405 = .ok (.iload 11, 2) := by decide +kernel
theorem dL_would_407 : decode cL_would 407 = .ok (.iload 12, 2) := by decide +kernel
theorem dL_would_409 : decode cL_would 409 = .ok (.invokevirtual 63, 3) := by decide +kernel
theorem dL_would_412 : decode cL_would 412 = .ok (.iload 14, 2) := by decide +kernel
theorem dL_would_414 : decode cL_would 414 = .ok (.if_icmp .ne 20, 3) := by decide +kernel
theorem dL_would_417 : decode cL_would 417 = .ok (.aload_n 0, 1) := by decide +kernel
theorem dL_would_418 : decode cL_would 418 = .ok (.iload 12, 2) := by decide +kernel
theorem dL_would_420 : decode cL_would 420 = .ok (.iload 11, 2) := by decide +kernel
theorem dL_would_422 : decode cL_would 422 = .ok (.invokevirtual 63, 3) := by decide +kernel
theorem dL_would_425 : decode cL_would 425 = .ok (.iload 14, 2) := by decide +kernel
theorem dL_would_427 : decode cL_would 427 = .ok (.if_icmp .ne 7, 3) := by decide +kernel
theorem dL_would_430 : decode cL_would 430 = .ok (.iconst 1, 1) := by decide +kernel
theorem dL_would_431 : decode cL_would 431 = .ok (.goto 4, 3) := by decide +kernel
theorem dL_would_434 : decode cL_would 434 = .ok (.iconst 0, 1) := by decide +kernel
theorem dL_would_435 : decode cL_would 435 = .ok (.ireturn, 1) := by decide +kernel
