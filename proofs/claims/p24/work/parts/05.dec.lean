theorem dX0_init_0 : decode cX0_init 0 = .ok (.aload_n 0, 1) := by decide +kernel
theorem dX0_init_1 : decode cX0_init 1 = .ok (.invokespecial 3, 3) := by decide +kernel
theorem dX0_init_4 : decode cX0_init 4 = .ok (.aload_n 0, 1) := by decide +kernel
theorem dX0_init_5 : decode cX0_init 5 = .ok (.bipush 6, 2) := by decide +kernel
theorem dX0_init_7 : decode cX0_init 7 = .ok (.anewarray 9, 3) := by decide +kernel
theorem dX0_init_10 : decode cX0_init 10 = .ok (.putfield 11, 3) := by decide +kernel
theorem dX0_init_13 : decode cX0_init 13 = .ok (.iconst 0, 1) := by decide +kernel
theorem dX0_init_14 : decode cX0_init 14 = .ok (.istore_n 1, 1) := by decide +kernel
theorem dX0_init_15 : decode cX0_init 15 = .ok (.iload_n 1, 1) := by decide +kernel
theorem dX0_init_16 : decode cX0_init 16 = .ok (.bipush 6, 2) := by decide +kernel
theorem dX0_init_18 : decode cX0_init 18 = .ok (.if_icmp .ge 22, 3) := by decide +kernel
theorem dX0_init_21 : decode cX0_init 21 = .ok (.aload_n 0, 1) := by decide +kernel
theorem dX0_init_22 : decode cX0_init 22 = .ok (.getfield 11, 3) := by decide +kernel
theorem dX0_init_25 : decode cX0_init 25 = .ok (.iload_n 1, 1) := by decide +kernel
theorem dX0_init_26 : decode cX0_init 26 = .ok (.new 9, 3) := by decide +kernel
theorem dX0_init_29 : decode cX0_init 29 = .ok (.dup, 1) := by decide +kernel
theorem dX0_init_30 : decode cX0_init 30 = .ok (.invokespecial 17, 3) := by decide +kernel
theorem dX0_init_33 : decode cX0_init 33 = .ok (.aastore, 1) := by decide +kernel
theorem dX0_init_34 : decode cX0_init 34 = .ok (.iinc 1 1, 3) := by decide +kernel
theorem dX0_init_37 : decode cX0_init 37 = .ok (.goto (-22), 3) := by decide +kernel
theorem dX0_init_40 : decode cX0_init 40 = .ok (.return_, 1) := by decide +kernel
theorem dX0_record_0 : decode cX0_record 0 = .ok (.aload_n 0, 1) := by decide +kernel
theorem dX0_record_1 : decode cX0_record 1 = .ok (.aload_n 0, 1) := by decide +kernel
theorem dX0_record_2 : decode cX0_record 2 = .ok (.getfield 18, 3) := by decide +kernel
theorem dX0_record_5 : decode cX0_record 5 = .ok (.invokevirtual 22, 3) := by decide +kernel
theorem dX0_record_8 : decode cX0_record 8 = .ok (.astore_n 2, 1) := by decide +kernel
theorem dX0_record_9 : decode cX0_record 9 = .ok (.aload_n 2, 1) := by decide +kernel
theorem dX0_record_10 : decode cX0_record 10 = .ok (.ifnonnull 4, 3) := by decide +kernel
theorem dX0_record_13 : decode cX0_record 13 = .ok (.return_, 1) := by decide +kernel
theorem dX0_record_14 : decode cX0_record 14 = .ok (.aload_n 2, 1) := by decide +kernel
theorem dX0_record_15 : decode cX0_record 15 = .ok (.aload_n 1, 1) := by decide +kernel
theorem dX0_record_16 : decode cX0_record 16 = .ok (.invokevirtual 26, 3) := by decide +kernel
theorem dX0_record_19 : decode cX0_record 19 = .ok (.aload_n 0, 1) := by decide +kernel
theorem dX0_record_20 : decode cX0_record 20 = .ok (.aload_n 0, 1) := by decide +kernel
theorem dX0_record_21 : decode cX0_record 21 = .ok (.getfield 18, 3) := by decide +kernel
theorem dX0_record_24 : decode cX0_record 24 = .ok (.iconst 1, 1) := by decide +kernel
theorem dX0_record_25 : decode cX0_record 25 = .ok (.iadd, 1) := by decide +kernel
theorem dX0_record_26 : decode cX0_record 26 = .ok (.bipush 6, 2) := by decide +kernel
theorem dX0_record_28 : decode cX0_record 28 = .ok (.if_icmp .ge 12, 3) := by decide +kernel
theorem dX0_record_31 : decode cX0_record 31 = .ok (.aload_n 0, 1) := by decide +kernel
theorem dX0_record_32 : decode cX0_record 32 = .ok (.getfield 18, 3) := by decide +kernel
theorem dX0_record_35 : decode cX0_record 35 = .ok (.iconst 1, 1) := by decide +kernel
theorem dX0_record_36 : decode cX0_record 36 = .ok (.iadd, 1) := by decide +kernel
theorem dX0_record_37 : decode cX0_record 37 = .ok (.goto 4, 3) := by decide +kernel
theorem dX0_record_40 : decode cX0_record 40 = .ok (.iconst 0, 1) := by decide +kernel
theorem dX0_record_41 : decode cX0_record 41 = .ok (.putfield 18, 3) := by decide +kernel
theorem dX0_record_44 : decode cX0_record 44 = .ok (.aload_n 0, 1) := by decide +kernel
theorem dX0_record_45 : decode cX0_record 45 = .ok (.aload_n 0, 1) := by decide +kernel
theorem dX0_record_46 : decode cX0_record 46 = .ok (.getfield 30, 3) := by decide +kernel
theorem dX0_record_49 : decode cX0_record 49 = .ok (.iconst 1, 1) := by decide +kernel
theorem dX0_record_50 : decode cX0_record 50 = .ok (.iadd, 1) := by decide +kernel
theorem dX0_record_51 : decode cX0_record 51 = .ok (.bipush 6, 2) := by decide +kernel
theorem dX0_record_53 : decode cX0_record 53 = .ok (.invokestatic 33, 3) := by decide +kernel
theorem dX0_record_56 : decode cX0_record 56 = .ok (.putfield 30, 3) := by decide +kernel
theorem dX0_record_59 : decode cX0_record 59 = .ok (.return_, 1) := by decide +kernel
theorem dX0_stateAt_0 : decode cX0_stateAt 0 = .ok (.iload_n 1, 1) := by decide +kernel
theorem dX0_stateAt_1 : decode cX0_stateAt 1 = .ok (.ifCond .lt 21, 3) := by decide +kernel
theorem dX0_stateAt_4 : decode cX0_stateAt 4 = .ok (.iload_n 1, 1) := by decide +kernel
theorem dX0_stateAt_5 : decode cX0_stateAt 5 = .ok (.aload_n 0, 1) := by decide +kernel
theorem dX0_stateAt_6 : decode cX0_stateAt 6 = .ok (.getfield 11, 3) := by decide +kernel
theorem dX0_stateAt_9 : decode cX0_stateAt 9 = .ok (.arraylength, 1) := by decide +kernel
theorem dX0_stateAt_10 : decode cX0_stateAt 10 = .ok (.if_icmp .ge 12, 3) := by decide +kernel
theorem dX0_stateAt_13 : decode cX0_stateAt 13 = .ok (.aload_n 0, 1) := by decide +kernel
theorem dX0_stateAt_14 : decode cX0_stateAt 14 = .ok (.getfield 11, 3) := by decide +kernel
theorem dX0_stateAt_17 : decode cX0_stateAt 17 = .ok (.iload_n 1, 1) := by decide +kernel
theorem dX0_stateAt_18 : decode cX0_stateAt 18 = .ok (.aaload, 1) := by decide +kernel
theorem dX0_stateAt_19 : decode cX0_stateAt 19 = .ok (.goto 4, 3) := by decide +kernel
theorem dX0_stateAt_22 : decode cX0_stateAt 22 = .ok (.aconst_null, 1) := by decide +kernel
theorem dX0_stateAt_23 : decode cX0_stateAt 23 = .ok (.areturn, 1) := by decide +kernel
theorem dX1_init_0 : decode cX1_init 0 = .ok (.aload_n 0, 1) := by decide +kernel
theorem dX1_init_1 : decode cX1_init 1 = .ok (.invokespecial 3, 3) := by decide +kernel
theorem dX1_init_4 : decode cX1_init 4 = .ok (.aload_n 0, 1) := by decide +kernel
theorem dX1_init_5 : decode cX1_init 5 = .ok (.bipush 60, 2) := by decide +kernel
theorem dX1_init_7 : decode cX1_init 7 = .ok (.newarray .char, 2) := by decide +kernel
theorem dX1_init_9 : decode cX1_init 9 = .ok (.putfield 9, 3) := by decide +kernel
theorem dX1_init_12 : decode cX1_init 12 = .ok (.return_, 1) := by decide +kernel
theorem dX2_init_0 : decode cX2_init 0 = .ok (.aload_n 0, 1) := by decide +kernel
theorem dX2_init_1 : decode cX2_init 1 = .ok (.invokespecial 3, 3) := by decide +kernel
theorem dX2_init_4 : decode cX2_init 4 = .ok (.aload_n 0, 1) := by decide +kernel
theorem dX2_init_5 : decode cX2_init 5 = .ok (.bipush 6, 2) := by decide +kernel
theorem dX2_init_7 : decode cX2_init 7 = .ok (.newarray .int, 2) := by decide +kernel
theorem dX2_init_9 : decode cX2_init 9 = .ok (.putfield 9, 3) := by decide +kernel
theorem dX2_init_12 : decode cX2_init 12 = .ok (.aload_n 0, 1) := by decide +kernel
theorem dX2_init_13 : decode cX2_init 13 = .ok (.bipush 6, 2) := by decide +kernel
theorem dX2_init_15 : decode cX2_init 15 = .ok (.newarray .int, 2) := by decide +kernel
theorem dX2_init_17 : decode cX2_init 17 = .ok (.putfield 15, 3) := by decide +kernel
theorem dX2_init_20 : decode cX2_init 20 = .ok (.aload_n 0, 1) := by decide +kernel
theorem dX2_init_21 : decode cX2_init 21 = .ok (.bipush 6, 2) := by decide +kernel
theorem dX2_init_23 : decode cX2_init 23 = .ok (.newarray .int, 2) := by decide +kernel
theorem dX2_init_25 : decode cX2_init 25 = .ok (.putfield 18, 3) := by decide +kernel
theorem dX2_init_28 : decode cX2_init 28 = .ok (.aload_n 0, 1) := by decide +kernel
theorem dX2_init_29 : decode cX2_init 29 = .ok (.bipush 6, 2) := by decide +kernel
theorem dX2_init_31 : decode cX2_init 31 = .ok (.newarray .int, 2) := by decide +kernel
theorem dX2_init_33 : decode cX2_init 33 = .ok (.putfield 21, 3) := by decide +kernel
theorem dX2_init_36 : decode cX2_init 36 = .ok (.aload_n 0, 1) := by decide +kernel
theorem dX2_init_37 : decode cX2_init 37 = .ok (.bipush 6, 2) := by decide +kernel
theorem dX2_init_39 : decode cX2_init 39 = .ok (.newarray .int, 2) := by decide +kernel
theorem dX2_init_41 : decode cX2_init 41 = .ok (.putfield 24, 3) := by decide +kernel
theorem dX2_init_44 : decode cX2_init 44 = .ok (.aload_n 0, 1) := by decide +kernel
theorem dX2_init_45 : decode cX2_init 45 = .ok (.bipush 6, 2) := by decide +kernel
theorem dX2_init_47 : decode cX2_init 47 = .ok (.newarray .int, 2) := by decide +kernel
theorem dX2_init_49 : decode cX2_init 49 = .ok (.putfield 27, 3) := by decide +kernel
theorem dX2_init_52 : decode cX2_init 52 = .ok (.aload_n 0, 1) := by decide +kernel
theorem dX2_init_53 : decode cX2_init 53 = .ok (.bipush 6, 2) := by decide +kernel
theorem dX2_init_55 : decode cX2_init 55 = .ok (.newarray .int, 2) := by decide +kernel
theorem dX2_init_57 : decode cX2_init 57 = .ok (.putfield 30, 3) := by decide +kernel
theorem dX2_init_60 : decode cX2_init 60 = .ok (.aload_n 0, 1) := by decide +kernel
theorem dX2_init_61 : decode cX2_init 61 = .ok (.bipush 6, 2) := by decide +kernel
theorem dX2_init_63 : decode cX2_init 63 = .ok (.newarray .int, 2) := by decide +kernel
theorem dX2_init_65 : decode cX2_init 65 = .ok (.putfield 33, 3) := by decide +kernel
theorem dX2_init_68 : decode cX2_init 68 = .ok (.aload_n 0, 1) := by decide +kernel
theorem dX2_init_69 : decode cX2_init 69 = .ok (.bipush 6, 2) := by decide +kernel
theorem dX2_init_71 : decode cX2_init 71 = .ok (.newarray .int, 2) := by decide +kernel
theorem dX2_init_73 : decode cX2_init 73 = .ok (.putfield 36, 3) := by decide +kernel
theorem dX2_init_76 : decode cX2_init 76 = .ok (.aload_n 0, 1) := by decide +kernel
theorem dX2_init_77 : decode cX2_init 77 = .ok (.bipush 6, 2) := by decide +kernel
theorem dX2_init_79 : decode cX2_init 79 = .ok (.newarray .int, 2) := by decide +kernel
theorem dX2_init_81 : decode cX2_init 81 = .ok (.putfield 39, 3) := by decide +kernel
theorem dX2_init_84 : decode cX2_init 84 = .ok (.aload_n 0, 1) := by decide +kernel
theorem dX2_init_85 : decode cX2_init 85 = .ok (.bipush 6, 2) := by decide +kernel
theorem dX2_init_87 : decode cX2_init 87 = .ok (.newarray .int, 2) := by decide +kernel
theorem dX2_init_89 : decode cX2_init 89 = .ok (.putfield 42, 3) := by decide +kernel
theorem dX2_init_92 : decode cX2_init 92 = .ok (.aload_n 0, 1) := by decide +kernel
theorem dX2_init_93 : decode cX2_init 93 = .ok (.bipush 6, 2) := by decide +kernel
theorem dX2_init_95 : decode cX2_init 95 = .ok (.newarray .int, 2) := by decide +kernel
theorem dX2_init_97 : decode cX2_init 97 = .ok (.putfield 45, 3) := by decide +kernel
theorem dX2_init_100 : decode cX2_init 100 = .ok (.aload_n 0, 1) := by decide +kernel
theorem dX2_init_101 : decode cX2_init 101 = .ok (.sipush 192, 3) := by decide +kernel
theorem dX2_init_104 : decode cX2_init 104 = .ok (.newarray .int, 2) := by decide +kernel
theorem dX2_init_106 : decode cX2_init 106 = .ok (.putfield 48, 3) := by decide +kernel
theorem dX2_init_109 : decode cX2_init 109 = .ok (.return_, 1) := by decide +kernel
theorem dX2_copyFrom_0 : decode cX2_copyFrom 0 = .ok (.aload_n 0, 1) := by decide +kernel
theorem dX2_copyFrom_1 : decode cX2_copyFrom 1 = .ok (.aload_n 1, 1) := by decide +kernel
theorem dX2_copyFrom_2 : decode cX2_copyFrom 2 = .ok (.getfield 51, 3) := by decide +kernel
theorem dX2_copyFrom_5 : decode cX2_copyFrom 5 = .ok (.putfield 51, 3) := by decide +kernel
theorem dX2_copyFrom_8 : decode cX2_copyFrom 8 = .ok (.aload_n 0, 1) := by decide +kernel
theorem dX2_copyFrom_9 : decode cX2_copyFrom 9 = .ok (.aload_n 1, 1) := by decide +kernel
theorem dX2_copyFrom_10 : decode cX2_copyFrom 10 = .ok (.getfield 55, 3) := by decide +kernel
theorem dX2_copyFrom_13 : decode cX2_copyFrom 13 = .ok (.putfield 55, 3) := by decide +kernel
theorem dX2_copyFrom_16 : decode cX2_copyFrom 16 = .ok (.aload_n 0, 1) := by decide +kernel
theorem dX2_copyFrom_17 : decode cX2_copyFrom 17 = .ok (.aload_n 1, 1) := by decide +kernel
theorem dX2_copyFrom_18 : decode cX2_copyFrom 18 = .ok (.getfield 58, 3) := by decide +kernel
theorem dX2_copyFrom_21 : decode cX2_copyFrom 21 = .ok (.putfield 58, 3) := by decide +kernel
theorem dX2_copyFrom_24 : decode cX2_copyFrom 24 = .ok (.aload_n 0, 1) := by decide +kernel
theorem dX2_copyFrom_25 : decode cX2_copyFrom 25 = .ok (.aload_n 1, 1) := by decide +kernel
theorem dX2_copyFrom_26 : decode cX2_copyFrom 26 = .ok (.getfield 61, 3) := by decide +kernel
theorem dX2_copyFrom_29 : decode cX2_copyFrom 29 = .ok (.putfield 61, 3) := by decide +kernel
theorem dX2_copyFrom_32 : decode cX2_copyFrom 32 = .ok (.aload_n 1, 1) := by decide +kernel
theorem dX2_copyFrom_33 : decode cX2_copyFrom 33 = .ok (.getfield 9, 3) := by decide +kernel
theorem dX2_copyFrom_36 : decode cX2_copyFrom 36 = .ok (.aload_n 0, 1) := by decide +kernel
theorem dX2_copyFrom_37 : decode cX2_copyFrom 37 = .ok (.getfield 9, 3) := by decide +kernel
theorem dX2_copyFrom_40 : decode cX2_copyFrom 40 = .ok (.invokestatic 64, 3) := by decide +kernel
theorem dX2_copyFrom_43 : decode cX2_copyFrom 43 = .ok (.aload_n 1, 1) := by decide +kernel
theorem dX2_copyFrom_44 : decode cX2_copyFrom 44 = .ok (.getfield 15, 3) := by decide +kernel
theorem dX2_copyFrom_47 : decode cX2_copyFrom 47 = .ok (.aload_n 0, 1) := by decide +kernel
theorem dX2_copyFrom_48 : decode cX2_copyFrom 48 = .ok (.getfield 15, 3) := by decide +kernel
theorem dX2_copyFrom_51 : decode cX2_copyFrom 51 = .ok (.invokestatic 64, 3) := by decide +kernel
theorem dX2_copyFrom_54 : decode cX2_copyFrom 54 = .ok (.aload_n 1, 1) := by decide +kernel
theorem dX2_copyFrom_55 : decode cX2_copyFrom 55 = .ok (.getfield 18, 3) := by decide +kernel
theorem dX2_copyFrom_58 : decode cX2_copyFrom 58 = .ok (.aload_n 0, 1) := by decide +kernel
theorem dX2_copyFrom_59 : decode cX2_copyFrom 59 = .ok (.getfield 18, 3) := by decide +kernel
theorem dX2_copyFrom_62 : decode cX2_copyFrom 62 = .ok (.invokestatic 64, 3) := by decide +kernel
theorem dX2_copyFrom_65 : decode cX2_copyFrom 65 = .ok (.aload_n 1, 1) := by decide +kernel
theorem dX2_copyFrom_66 : decode cX2_copyFrom 66 = .ok (.getfield 21, 3) := by decide +kernel
theorem dX2_copyFrom_69 : decode cX2_copyFrom 69 = .ok (.aload_n 0, 1) := by decide +kernel
theorem dX2_copyFrom_70 : decode cX2_copyFrom 70 = .ok (.getfield 21, 3) := by decide +kernel
theorem dX2_copyFrom_73 : decode cX2_copyFrom 73 = .ok (.invokestatic 64, 3) := by decide +kernel
theorem dX2_copyFrom_76 : decode cX2_copyFrom 76 = .ok (.aload_n 1, 1) := by decide +kernel
theorem dX2_copyFrom_77 : decode cX2_copyFrom 77 = .ok (.getfield 24, 3) := by decide +kernel
theorem dX2_copyFrom_80 : decode cX2_copyFrom 80 = .ok (.aload_n 0, 1) := by decide +kernel
theorem dX2_copyFrom_81 : decode cX2_copyFrom 81 = .ok (.getfield 24, 3) := by decide +kernel
theorem dX2_copyFrom_84 : decode cX2_copyFrom 84 = .ok (.invokestatic 64, 3) := by decide +kernel
theorem dX2_copyFrom_87 : decode cX2_copyFrom 87 = .ok (.aload_n 1, 1) := by decide +kernel
theorem dX2_copyFrom_88 : decode cX2_copyFrom 88 = .ok (.getfield 27, 3) := by decide +kernel
theorem dX2_copyFrom_91 : decode cX2_copyFrom 91 = .ok (.aload_n 0, 1) := by decide +kernel
theorem dX2_copyFrom_92 : decode cX2_copyFrom 92 = .ok (.getfield 27, 3) := by decide +kernel
theorem dX2_copyFrom_95 : decode cX2_copyFrom 95 = .ok (.invokestatic 64, 3) := by decide +kernel
theorem dX2_copyFrom_98 : decode cX2_copyFrom 98 = .ok (.aload_n 1, 1) := by decide +kernel
theorem dX2_copyFrom_99 : decode cX2_copyFrom 99 = .ok (.getfield 30, 3) := by decide +kernel
theorem dX2_copyFrom_102 : decode cX2_copyFrom 102 = .ok (.aload_n 0, 1) := by decide +kernel
theorem dX2_copyFrom_103 : decode cX2_copyFrom 103 = .ok (.getfield 30, 3) := by decide +kernel
theorem dX2_copyFrom_106 : decode cX2_copyFrom 106 = .ok (.invokestatic 64, 3) := by decide +kernel
theorem dX2_copyFrom_109 : decode cX2_copyFrom 109 = .ok (.aload_n 1, 1) := by decide +kernel
theorem dX2_copyFrom_110 : decode cX2_copyFrom 110 = .ok (.getfield 33, 3) := by decide +kernel
theorem dX2_copyFrom_113 : decode cX2_copyFrom 113 = .ok (.aload_n 0, 1) := by decide +kernel
theorem dX2_copyFrom_114 : decode cX2_copyFrom 114 = .ok (.getfield 33, 3) := by decide +kernel
theorem dX2_copyFrom_117 : decode cX2_copyFrom 117 = .ok (.invokestatic 64, 3) := by decide +kernel
theorem dX2_copyFrom_120 : decode cX2_copyFrom 120 = .ok (.aload_n 1, 1) := by decide +kernel
theorem dX2_copyFrom_121 : decode cX2_copyFrom 121 = .ok (.getfield 36, 3) := by decide +kernel
theorem dX2_copyFrom_124 : decode cX2_copyFrom 124 = .ok (.aload_n 0, 1) := by decide +kernel
theorem dX2_copyFrom_125 : decode cX2_copyFrom 125 = .ok (.getfield 36, 3) := by decide +kernel
theorem dX2_copyFrom_128 : decode cX2_copyFrom 128 = .ok (.invokestatic 64, 3) := by decide +kernel
theorem dX2_copyFrom_131 : decode cX2_copyFrom 131 = .ok (.aload_n 1, 1) := by decide +kernel
theorem dX2_copyFrom_132 : decode cX2_copyFrom 132 = .ok (.getfield 39, 3) := by decide +kernel
theorem dX2_copyFrom_135 : decode cX2_copyFrom 135 = .ok (.aload_n 0, 1) := by decide +kernel
theorem dX2_copyFrom_136 : decode cX2_copyFrom 136 = .ok (.getfield 39, 3) := by decide +kernel
theorem dX2_copyFrom_139 : decode cX2_copyFrom 139 = .ok (.invokestatic 64, 3) := by decide +kernel
theorem dX2_copyFrom_142 : decode cX2_copyFrom 142 = .ok (.aload_n 1, 1) := by decide +kernel
theorem dX2_copyFrom_143 : decode cX2_copyFrom 143 = .ok (.getfield 42, 3) := by decide +kernel
theorem dX2_copyFrom_146 : decode cX2_copyFrom 146 = .ok (.aload_n 0, 1) := by decide +kernel
theorem dX2_copyFrom_147 : decode cX2_copyFrom 147 = .ok (.getfield 42, 3) := by decide +kernel
theorem dX2_copyFrom_150 : decode cX2_copyFrom 150 = .ok (.invokestatic 64, 3) := by decide +kernel
theorem dX2_copyFrom_153 : decode cX2_copyFrom 153 = .ok (.aload_n 1, 1) := by decide +kernel
theorem dX2_copyFrom_154 : decode cX2_copyFrom 154 = .ok (.getfield 45, 3) := by decide +kernel
theorem dX2_copyFrom_157 : decode cX2_copyFrom 157 = .ok (.aload_n 0, 1) := by decide +kernel
theorem dX2_copyFrom_158 : decode cX2_copyFrom 158 = .ok (.getfield 45, 3) := by decide +kernel
theorem dX2_copyFrom_161 : decode cX2_copyFrom 161 = .ok (.invokestatic 64, 3) := by decide +kernel
theorem dX2_copyFrom_164 : decode cX2_copyFrom 164 = .ok (.aload_n 1, 1) := by decide +kernel
theorem dX2_copyFrom_165 : decode cX2_copyFrom 165 = .ok (.getfield 48, 3) := by decide +kernel
theorem dX2_copyFrom_168 : decode cX2_copyFrom 168 = .ok (.aload_n 0, 1) := by decide +kernel
theorem dX2_copyFrom_169 : decode cX2_copyFrom 169 = .ok (.getfield 48, 3) := by decide +kernel
theorem dX2_copyFrom_172 : decode cX2_copyFrom 172 = .ok (.invokestatic 64, 3) := by decide +kernel
theorem dX2_copyFrom_175 : decode cX2_copyFrom 175 = .ok (.return_, 1) := by decide +kernel
theorem dX2_copyRow_0 : decode cX2_copyRow 0 = .ok (.aload_n 0, 1) := by decide +kernel
theorem dX2_copyRow_1 : decode cX2_copyRow 1 = .ok (.iconst 0, 1) := by decide +kernel
theorem dX2_copyRow_2 : decode cX2_copyRow 2 = .ok (.aload_n 1, 1) := by decide +kernel
theorem dX2_copyRow_3 : decode cX2_copyRow 3 = .ok (.iconst 0, 1) := by decide +kernel
theorem dX2_copyRow_4 : decode cX2_copyRow 4 = .ok (.aload_n 0, 1) := by decide +kernel
theorem dX2_copyRow_5 : decode cX2_copyRow 5 = .ok (.arraylength, 1) := by decide +kernel
theorem dX2_copyRow_6 : decode cX2_copyRow 6 = .ok (.aload_n 1, 1) := by decide +kernel
theorem dX2_copyRow_7 : decode cX2_copyRow 7 = .ok (.arraylength, 1) := by decide +kernel
theorem dX2_copyRow_8 : decode cX2_copyRow 8 = .ok (.invokestatic 68, 3) := by decide +kernel
theorem dX2_copyRow_11 : decode cX2_copyRow 11 = .ok (.invokestatic 74, 3) := by decide +kernel
theorem dX2_copyRow_14 : decode cX2_copyRow 14 = .ok (.return_, 1) := by decide +kernel
theorem dX2_has_0 : decode cX2_has 0 = .ok (.iload_n 1, 1) := by decide +kernel
theorem dX2_has_1 : decode cX2_has 1 = .ok (.ifCond .lt 21, 3) := by decide +kernel
theorem dX2_has_4 : decode cX2_has 4 = .ok (.iload_n 1, 1) := by decide +kernel
theorem dX2_has_5 : decode cX2_has 5 = .ok (.aload_n 0, 1) := by decide +kernel
theorem dX2_has_6 : decode cX2_has 6 = .ok (.getfield 51, 3) := by decide +kernel
theorem dX2_has_9 : decode cX2_has 9 = .ok (.if_icmp .ge 13, 3) := by decide +kernel
theorem dX2_has_12 : decode cX2_has 12 = .ok (.iload_n 1, 1) := by decide +kernel
theorem dX2_has_13 : decode cX2_has 13 = .ok (.bipush 6, 2) := by decide +kernel
theorem dX2_has_15 : decode cX2_has 15 = .ok (.if_icmp .ge 7, 3) := by decide +kernel
theorem dX2_has_18 : decode cX2_has 18 = .ok (.iconst 1, 1) := by decide +kernel
theorem dX2_has_19 : decode cX2_has 19 = .ok (.goto 4, 3) := by decide +kernel
theorem dX2_has_22 : decode cX2_has 22 = .ok (.iconst 0, 1) := by decide +kernel
theorem dX2_has_23 : decode cX2_has 23 = .ok (.ireturn, 1) := by decide +kernel
theorem dX2_isFlying_0 : decode cX2_isFlying 0 = .ok (.aload_n 0, 1) := by decide +kernel
theorem dX2_isFlying_1 : decode cX2_isFlying 1 = .ok (.iload_n 1, 1) := by decide +kernel
theorem dX2_isFlying_2 : decode cX2_isFlying 2 = .ok (.invokevirtual 80, 3) := by decide +kernel
theorem dX2_isFlying_5 : decode cX2_isFlying 5 = .ok (.ifCond .eq 16, 3) := by decide +kernel
theorem dX2_isFlying_8 : decode cX2_isFlying 8 = .ok (.aload_n 0, 1) := by decide +kernel
theorem dX2_isFlying_9 : decode cX2_isFlying 9 = .ok (.getfield 36, 3) := by decide +kernel
theorem dX2_isFlying_12 : decode cX2_isFlying 12 = .ok (.iload_n 1, 1) := by decide +kernel
theorem dX2_isFlying_13 : decode cX2_isFlying 13 = .ok (.iaload, 1) := by decide +kernel
theorem dX2_isFlying_14 : decode cX2_isFlying 14 = .ok (.ifCond .ne 7, 3) := by decide +kernel
theorem dX2_isFlying_17 : decode cX2_isFlying 17 = .ok (.iconst 1, 1) := by decide +kernel
theorem dX2_isFlying_18 : decode cX2_isFlying 18 = .ok (.goto 4, 3) := by decide +kernel
theorem dX2_isFlying_21 : decode cX2_isFlying 21 = .ok (.iconst 0, 1) := by decide +kernel
theorem dX2_isFlying_22 : decode cX2_isFlying 22 = .ok (.ireturn, 1) := by decide +kernel
theorem dX2_hasRoom_0 : decode cX2_hasRoom 0 = .ok (.aload_n 0, 1) := by decide +kernel
theorem dX2_hasRoom_1 : decode cX2_hasRoom 1 = .ok (.getfield 51, 3) := by decide +kernel
theorem dX2_hasRoom_4 : decode cX2_hasRoom 4 = .ok (.ifCond .lt 16, 3) := by decide +kernel
theorem dX2_hasRoom_7 : decode cX2_hasRoom 7 = .ok (.aload_n 0, 1) := by decide +kernel
theorem dX2_hasRoom_8 : decode cX2_hasRoom 8 = .ok (.getfield 51, 3) := by decide +kernel
theorem dX2_hasRoom_11 : decode cX2_hasRoom 11 = .ok (.bipush 6, 2) := by decide +kernel
theorem dX2_hasRoom_13 : decode cX2_hasRoom 13 = .ok (.if_icmp .ge 7, 3) := by decide +kernel
theorem dX2_hasRoom_16 : decode cX2_hasRoom 16 = .ok (.iconst 1, 1) := by decide +kernel
theorem dX2_hasRoom_17 : decode cX2_hasRoom 17 = .ok (.goto 4, 3) := by decide +kernel
theorem dX2_hasRoom_20 : decode cX2_hasRoom 20 = .ok (.iconst 0, 1) := by decide +kernel
theorem dX2_hasRoom_21 : decode cX2_hasRoom 21 = .ok (.ireturn, 1) := by decide +kernel
theorem dX2_addKite_0 : decode cX2_addKite 0 = .ok (.aload_n 0, 1) := by decide +kernel
theorem dX2_addKite_1 : decode cX2_addKite 1 = .ok (.getfield 51, 3) := by decide +kernel
theorem dX2_addKite_4 : decode cX2_addKite 4 = .ok (.istore 6, 2) := by decide +kernel
theorem dX2_addKite_6 : decode cX2_addKite 6 = .ok (.aload_n 0, 1) := by decide +kernel
theorem dX2_addKite_7 : decode cX2_addKite 7 = .ok (.getfield 39, 3) := by decide +kernel
theorem dX2_addKite_10 : decode cX2_addKite 10 = .ok (.iload 6, 2) := by decide +kernel
theorem dX2_addKite_12 : decode cX2_addKite 12 = .ok (.iload_n 1, 1) := by decide +kernel
theorem dX2_addKite_13 : decode cX2_addKite 13 = .ok (.iastore, 1) := by decide +kernel
theorem dX2_addKite_14 : decode cX2_addKite 14 = .ok (.aload_n 0, 1) := by decide +kernel
theorem dX2_addKite_15 : decode cX2_addKite 15 = .ok (.getfield 42, 3) := by decide +kernel
theorem dX2_addKite_18 : decode cX2_addKite 18 = .ok (.iload 6, 2) := by decide +kernel
theorem dX2_addKite_20 : decode cX2_addKite 20 = .ok (.iload_n 2, 1) := by decide +kernel
theorem dX2_addKite_21 : decode cX2_addKite 21 = .ok (.iastore, 1) := by decide +kernel
theorem dX2_addKite_22 : decode cX2_addKite 22 = .ok (.aload_n 0, 1) := by decide +kernel
theorem dX2_addKite_23 : decode cX2_addKite 23 = .ok (.getfield 45, 3) := by decide +kernel
theorem dX2_addKite_26 : decode cX2_addKite 26 = .ok (.iload 6, 2) := by decide +kernel
theorem dX2_addKite_28 : decode cX2_addKite 28 = .ok (.iload_n 3, 1) := by decide +kernel
theorem dX2_addKite_29 : decode cX2_addKite 29 = .ok (.iastore, 1) := by decide +kernel
theorem dX2_addKite_30 : decode cX2_addKite 30 = .ok (.aload_n 0, 1) := by decide +kernel
theorem dX2_addKite_31 : decode cX2_addKite 31 = .ok (.getfield 27, 3) := by decide +kernel
theorem dX2_addKite_34 : decode cX2_addKite 34 = .ok (.iload 6, 2) := by decide +kernel
theorem dX2_addKite_36 : decode cX2_addKite 36 = .ok (.iload 4, 2) := by decide +kernel
theorem dX2_addKite_38 : decode cX2_addKite 38 = .ok (.iastore, 1) := by decide +kernel
theorem dX2_addKite_39 : decode cX2_addKite 39 = .ok (.aload_n 0, 1) := by decide +kernel
theorem dX2_addKite_40 : decode cX2_addKite 40 = .ok (.getfield 30, 3) := by decide +kernel
theorem dX2_addKite_43 : decode cX2_addKite 43 = .ok (.iload 6, 2) := by decide +kernel
theorem dX2_addKite_45 : decode cX2_addKite 45 = .ok (.iload 5, 2) := by decide +kernel
theorem dX2_addKite_47 : decode cX2_addKite 47 = .ok (.iastore, 1) := by decide +kernel
theorem dX2_addKite_48 : decode cX2_addKite 48 = .ok (.aload_n 0, 1) := by decide +kernel
theorem dX2_addKite_49 : decode cX2_addKite 49 = .ok (.getfield 33, 3) := by decide +kernel
theorem dX2_addKite_52 : decode cX2_addKite 52 = .ok (.iload 6, 2) := by decide +kernel
theorem dX2_addKite_54 : decode cX2_addKite 54 = .ok (.iconst 0, 1) := by decide +kernel
theorem dX2_addKite_55 : decode cX2_addKite 55 = .ok (.iastore, 1) := by decide +kernel
theorem dX2_addKite_56 : decode cX2_addKite 56 = .ok (.aload_n 0, 1) := by decide +kernel
theorem dX2_addKite_57 : decode cX2_addKite 57 = .ok (.iload 6, 2) := by decide +kernel
theorem dX2_addKite_59 : decode cX2_addKite 59 = .ok (.invokevirtual 84, 3) := by decide +kernel
theorem dX2_addKite_62 : decode cX2_addKite 62 = .ok (.aload_n 0, 1) := by decide +kernel
theorem dX2_addKite_63 : decode cX2_addKite 63 = .ok (.dup, 1) := by decide +kernel
theorem dX2_addKite_64 : decode cX2_addKite 64 = .ok (.getfield 51, 3) := by decide +kernel
theorem dX2_addKite_67 : decode cX2_addKite 67 = .ok (.iconst 1, 1) := by decide +kernel
theorem dX2_addKite_68 : decode cX2_addKite 68 = .ok (.iadd, 1) := by decide +kernel
theorem dX2_addKite_69 : decode cX2_addKite 69 = .ok (.putfield 51, 3) := by decide +kernel
theorem dX2_addKite_72 : decode cX2_addKite 72 = .ok (.iload 6, 2) := by decide +kernel
theorem dX2_addKite_74 : decode cX2_addKite 74 = .ok (.ireturn, 1) := by decide +kernel
theorem dX2_sendUp_0 : decode cX2_sendUp 0 = .ok (.aload_n 0, 1) := by decide +kernel
theorem dX2_sendUp_1 : decode cX2_sendUp 1 = .ok (.getfield 9, 3) := by decide +kernel
theorem dX2_sendUp_4 : decode cX2_sendUp 4 = .ok (.iload_n 1, 1) := by decide +kernel
theorem dX2_sendUp_5 : decode cX2_sendUp 5 = .ok (.aload_n 0, 1) := by decide +kernel
theorem dX2_sendUp_6 : decode cX2_sendUp 6 = .ok (.getfield 39, 3) := by decide +kernel
theorem dX2_sendUp_9 : decode cX2_sendUp 9 = .ok (.iload_n 1, 1) := by decide +kernel
theorem dX2_sendUp_10 : decode cX2_sendUp 10 = .ok (.iaload, 1) := by decide +kernel
theorem dX2_sendUp_11 : decode cX2_sendUp 11 = .ok (.iastore, 1) := by decide +kernel
theorem dX2_sendUp_12 : decode cX2_sendUp 12 = .ok (.aload_n 0, 1) := by decide +kernel
theorem dX2_sendUp_13 : decode cX2_sendUp 13 = .ok (.getfield 15, 3) := by decide +kernel
theorem dX2_sendUp_16 : decode cX2_sendUp 16 = .ok (.iload_n 1, 1) := by decide +kernel
theorem dX2_sendUp_17 : decode cX2_sendUp 17 = .ok (.aload_n 0, 1) := by decide +kernel
theorem dX2_sendUp_18 : decode cX2_sendUp 18 = .ok (.getfield 42, 3) := by decide +kernel
theorem dX2_sendUp_21 : decode cX2_sendUp 21 = .ok (.iload_n 1, 1) := by decide +kernel
theorem dX2_sendUp_22 : decode cX2_sendUp 22 = .ok (.iaload, 1) := by decide +kernel
theorem dX2_sendUp_23 : decode cX2_sendUp 23 = .ok (.iastore, 1) := by decide +kernel
theorem dX2_sendUp_24 : decode cX2_sendUp 24 = .ok (.aload_n 0, 1) := by decide +kernel
theorem dX2_sendUp_25 : decode cX2_sendUp 25 = .ok (.getfield 18, 3) := by decide +kernel
theorem dX2_sendUp_28 : decode cX2_sendUp 28 = .ok (.iload_n 1, 1) := by decide +kernel
theorem dX2_sendUp_29 : decode cX2_sendUp 29 = .ok (.aload_n 0, 1) := by decide +kernel
theorem dX2_sendUp_30 : decode cX2_sendUp 30 = .ok (.getfield 45, 3) := by decide +kernel
theorem dX2_sendUp_33 : decode cX2_sendUp 33 = .ok (.iload_n 1, 1) := by decide +kernel
theorem dX2_sendUp_34 : decode cX2_sendUp 34 = .ok (.iaload, 1) := by decide +kernel
theorem dX2_sendUp_35 : decode cX2_sendUp 35 = .ok (.iastore, 1) := by decide +kernel
theorem dX2_sendUp_36 : decode cX2_sendUp 36 = .ok (.aload_n 0, 1) := by decide +kernel
theorem dX2_sendUp_37 : decode cX2_sendUp 37 = .ok (.getfield 21, 3) := by decide +kernel
theorem dX2_sendUp_40 : decode cX2_sendUp 40 = .ok (.iload_n 1, 1) := by decide +kernel
theorem dX2_sendUp_41 : decode cX2_sendUp 41 = .ok (.iconst 0, 1) := by decide +kernel
theorem dX2_sendUp_42 : decode cX2_sendUp 42 = .ok (.iastore, 1) := by decide +kernel
theorem dX2_sendUp_43 : decode cX2_sendUp 43 = .ok (.aload_n 0, 1) := by decide +kernel
theorem dX2_sendUp_44 : decode cX2_sendUp 44 = .ok (.getfield 24, 3) := by decide +kernel
theorem dX2_sendUp_47 : decode cX2_sendUp 47 = .ok (.iload_n 1, 1) := by decide +kernel
theorem dX2_sendUp_48 : decode cX2_sendUp 48 = .ok (.iconst 0, 1) := by decide +kernel
theorem dX2_sendUp_49 : decode cX2_sendUp 49 = .ok (.iastore, 1) := by decide +kernel
theorem dX2_sendUp_50 : decode cX2_sendUp 50 = .ok (.aload_n 0, 1) := by decide +kernel
theorem dX2_sendUp_51 : decode cX2_sendUp 51 = .ok (.getfield 36, 3) := by decide +kernel
theorem dX2_sendUp_54 : decode cX2_sendUp 54 = .ok (.iload_n 1, 1) := by decide +kernel
theorem dX2_sendUp_55 : decode cX2_sendUp 55 = .ok (.iconst 0, 1) := by decide +kernel
theorem dX2_sendUp_56 : decode cX2_sendUp 56 = .ok (.iastore, 1) := by decide +kernel
theorem dX2_sendUp_57 : decode cX2_sendUp 57 = .ok (.iconst 0, 1) := by decide +kernel
theorem dX2_sendUp_58 : decode cX2_sendUp 58 = .ok (.istore_n 2, 1) := by decide +kernel
theorem dX2_sendUp_59 : decode cX2_sendUp 59 = .ok (.iload_n 2, 1) := by decide +kernel
theorem dX2_sendUp_60 : decode cX2_sendUp 60 = .ok (.bipush 32, 2) := by decide +kernel
theorem dX2_sendUp_62 : decode cX2_sendUp 62 = .ok (.if_icmp .ge 21, 3) := by decide +kernel
theorem dX2_sendUp_65 : decode cX2_sendUp 65 = .ok (.aload_n 0, 1) := by decide +kernel
theorem dX2_sendUp_66 : decode cX2_sendUp 66 = .ok (.getfield 48, 3) := by decide +kernel
theorem dX2_sendUp_69 : decode cX2_sendUp 69 = .ok (.iload_n 1, 1) := by decide +kernel
theorem dX2_sendUp_70 : decode cX2_sendUp 70 = .ok (.bipush 32, 2) := by decide +kernel
theorem dX2_sendUp_72 : decode cX2_sendUp 72 = .ok (.imul, 1) := by decide +kernel
theorem dX2_sendUp_73 : decode cX2_sendUp 73 = .ok (.iload_n 2, 1) := by decide +kernel
theorem dX2_sendUp_74 : decode cX2_sendUp 74 = .ok (.iadd, 1) := by decide +kernel
theorem dX2_sendUp_75 : decode cX2_sendUp 75 = .ok (.iconst 0, 1) := by decide +kernel
theorem dX2_sendUp_76 : decode cX2_sendUp 76 = .ok (.iastore, 1) := by decide +kernel
theorem dX2_sendUp_77 : decode cX2_sendUp 77 = .ok (.iinc 2 1, 3) := by decide +kernel
theorem dX2_sendUp_80 : decode cX2_sendUp 80 = .ok (.goto (-21), 3) := by decide +kernel
theorem dX2_sendUp_83 : decode cX2_sendUp 83 = .ok (.return_, 1) := by decide +kernel
theorem dX2_beginAnew_0 : decode cX2_beginAnew 0 = .ok (.iconst 0, 1) := by decide +kernel
theorem dX2_beginAnew_1 : decode cX2_beginAnew 1 = .ok (.istore_n 1, 1) := by decide +kernel
theorem dX2_beginAnew_2 : decode cX2_beginAnew 2 = .ok (.iload_n 1, 1) := by decide +kernel
theorem dX2_beginAnew_3 : decode cX2_beginAnew 3 = .ok (.bipush 6, 2) := by decide +kernel
theorem dX2_beginAnew_5 : decode cX2_beginAnew 5 = .ok (.if_icmp .ge 22, 3) := by decide +kernel
theorem dX2_beginAnew_8 : decode cX2_beginAnew 8 = .ok (.aload_n 0, 1) := by decide +kernel
theorem dX2_beginAnew_9 : decode cX2_beginAnew 9 = .ok (.iload_n 1, 1) := by decide +kernel
theorem dX2_beginAnew_10 : decode cX2_beginAnew 10 = .ok (.invokevirtual 80, 3) := by decide +kernel
theorem dX2_beginAnew_13 : decode cX2_beginAnew 13 = .ok (.ifCond .eq 8, 3) := by decide +kernel
theorem dX2_beginAnew_16 : decode cX2_beginAnew 16 = .ok (.aload_n 0, 1) := by decide +kernel
theorem dX2_beginAnew_17 : decode cX2_beginAnew 17 = .ok (.iload_n 1, 1) := by decide +kernel
theorem dX2_beginAnew_18 : decode cX2_beginAnew 18 = .ok (.invokevirtual 84, 3) := by decide +kernel
theorem dX2_beginAnew_21 : decode cX2_beginAnew 21 = .ok (.iinc 1 1, 3) := by decide +kernel
theorem dX2_beginAnew_24 : decode cX2_beginAnew 24 = .ok (.goto (-22), 3) := by decide +kernel
theorem dX2_beginAnew_27 : decode cX2_beginAnew 27 = .ok (.aload_n 0, 1) := by decide +kernel
theorem dX2_beginAnew_28 : decode cX2_beginAnew 28 = .ok (.dup, 1) := by decide +kernel
theorem dX2_beginAnew_29 : decode cX2_beginAnew 29 = .ok (.getfield 58, 3) := by decide +kernel
theorem dX2_beginAnew_32 : decode cX2_beginAnew 32 = .ok (.iconst 1, 1) := by decide +kernel
theorem dX2_beginAnew_33 : decode cX2_beginAnew 33 = .ok (.iadd, 1) := by decide +kernel
theorem dX2_beginAnew_34 : decode cX2_beginAnew 34 = .ok (.putfield 58, 3) := by decide +kernel
theorem dX2_beginAnew_37 : decode cX2_beginAnew 37 = .ok (.return_, 1) := by decide +kernel
theorem dX2_turn_0 : decode cX2_turn 0 = .ok (.bipush 10, 2) := by decide +kernel
theorem dX2_turn_2 : decode cX2_turn 2 = .ok (.iload_n 2, 1) := by decide +kernel
theorem dX2_turn_3 : decode cX2_turn 3 = .ok (.aload_n 0, 1) := by decide +kernel
theorem dX2_turn_4 : decode cX2_turn 4 = .ok (.getfield 21, 3) := by decide +kernel
theorem dX2_turn_7 : decode cX2_turn 7 = .ok (.iload_n 1, 1) := by decide +kernel
theorem dX2_turn_8 : decode cX2_turn 8 = .ok (.iaload, 1) := by decide +kernel
theorem dX2_turn_9 : decode cX2_turn 9 = .ok (.isub, 1) := by decide +kernel
theorem dX2_turn_10 : decode cX2_turn 10 = .ok (.invokestatic 88, 3) := by decide +kernel
theorem dX2_turn_13 : decode cX2_turn 13 = .ok (.imul, 1) := by decide +kernel
theorem dX2_turn_14 : decode cX2_turn 14 = .ok (.iload_n 3, 1) := by decide +kernel
theorem dX2_turn_15 : decode cX2_turn 15 = .ok (.aload_n 0, 1) := by decide +kernel
theorem dX2_turn_16 : decode cX2_turn 16 = .ok (.getfield 24, 3) := by decide +kernel
theorem dX2_turn_19 : decode cX2_turn 19 = .ok (.iload_n 1, 1) := by decide +kernel
theorem dX2_turn_20 : decode cX2_turn 20 = .ok (.iaload, 1) := by decide +kernel
theorem dX2_turn_21 : decode cX2_turn 21 = .ok (.isub, 1) := by decide +kernel
theorem dX2_turn_22 : decode cX2_turn 22 = .ok (.invokestatic 88, 3) := by decide +kernel
theorem dX2_turn_25 : decode cX2_turn 25 = .ok (.iadd, 1) := by decide +kernel
theorem dX2_turn_26 : decode cX2_turn 26 = .ok (.istore 4, 2) := by decide +kernel
theorem dX2_turn_28 : decode cX2_turn 28 = .ok (.aload_n 0, 1) := by decide +kernel
theorem dX2_turn_29 : decode cX2_turn 29 = .ok (.getfield 21, 3) := by decide +kernel
theorem dX2_turn_32 : decode cX2_turn 32 = .ok (.iload_n 1, 1) := by decide +kernel
theorem dX2_turn_33 : decode cX2_turn 33 = .ok (.iload_n 2, 1) := by decide +kernel
theorem dX2_turn_34 : decode cX2_turn 34 = .ok (.iastore, 1) := by decide +kernel
theorem dX2_turn_35 : decode cX2_turn 35 = .ok (.aload_n 0, 1) := by decide +kernel
theorem dX2_turn_36 : decode cX2_turn 36 = .ok (.getfield 24, 3) := by decide +kernel
theorem dX2_turn_39 : decode cX2_turn 39 = .ok (.iload_n 1, 1) := by decide +kernel
theorem dX2_turn_40 : decode cX2_turn 40 = .ok (.iload_n 3, 1) := by decide +kernel
theorem dX2_turn_41 : decode cX2_turn 41 = .ok (.iastore, 1) := by decide +kernel
theorem dX2_turn_42 : decode cX2_turn 42 = .ok (.iload 4, 2) := by decide +kernel
theorem dX2_turn_44 : decode cX2_turn 44 = .ok (.ireturn, 1) := by decide +kernel
theorem dX2_move_0 : decode cX2_move 0 = .ok (.aload_n 0, 1) := by decide +kernel
theorem dX2_move_1 : decode cX2_move 1 = .ok (.getfield 15, 3) := by decide +kernel
theorem dX2_move_4 : decode cX2_move 4 = .ok (.iload_n 1, 1) := by decide +kernel
theorem dX2_move_5 : decode cX2_move 5 = .ok (.iaload, 1) := by decide +kernel
theorem dX2_move_6 : decode cX2_move 6 = .ok (.aload_n 0, 1) := by decide +kernel
theorem dX2_move_7 : decode cX2_move 7 = .ok (.getfield 21, 3) := by decide +kernel
theorem dX2_move_10 : decode cX2_move 10 = .ok (.iload_n 1, 1) := by decide +kernel
theorem dX2_move_11 : decode cX2_move 11 = .ok (.iaload, 1) := by decide +kernel
theorem dX2_move_12 : decode cX2_move 12 = .ok (.iadd, 1) := by decide +kernel
theorem dX2_move_13 : decode cX2_move 13 = .ok (.istore_n 2, 1) := by decide +kernel
theorem dX2_move_14 : decode cX2_move 14 = .ok (.iload_n 2, 1) := by decide +kernel
theorem dX2_move_15 : decode cX2_move 15 = .ok (.iconst 0, 1) := by decide +kernel
theorem dX2_move_16 : decode cX2_move 16 = .ok (.bipush 63, 2) := by decide +kernel
theorem dX2_move_18 : decode cX2_move 18 = .ok (.invokestatic 92, 3) := by decide +kernel
theorem dX2_move_21 : decode cX2_move 21 = .ok (.ifCond .eq 13, 3) := by decide +kernel
theorem dX2_move_24 : decode cX2_move 24 = .ok (.aload_n 0, 1) := by decide +kernel
theorem dX2_move_25 : decode cX2_move 25 = .ok (.getfield 15, 3) := by decide +kernel
theorem dX2_move_28 : decode cX2_move 28 = .ok (.iload_n 1, 1) := by decide +kernel
theorem dX2_move_29 : decode cX2_move 29 = .ok (.iload_n 2, 1) := by decide +kernel
theorem dX2_move_30 : decode cX2_move 30 = .ok (.iastore, 1) := by decide +kernel
theorem dX2_move_31 : decode cX2_move 31 = .ok (.goto 16, 3) := by decide +kernel
theorem dX2_move_34 : decode cX2_move 34 = .ok (.aload_n 0, 1) := by decide +kernel
theorem dX2_move_35 : decode cX2_move 35 = .ok (.getfield 21, 3) := by decide +kernel
theorem dX2_move_38 : decode cX2_move 38 = .ok (.iload_n 1, 1) := by decide +kernel
theorem dX2_move_39 : decode cX2_move 39 = .ok (.aload_n 0, 1) := by decide +kernel
theorem dX2_move_40 : decode cX2_move 40 = .ok (.getfield 21, 3) := by decide +kernel
theorem dX2_move_43 : decode cX2_move 43 = .ok (.iload_n 1, 1) := by decide +kernel
theorem dX2_move_44 : decode cX2_move 44 = .ok (.iaload, 1) := by decide +kernel
theorem dX2_move_45 : decode cX2_move 45 = .ok (.ineg, 1) := by decide +kernel
theorem dX2_move_46 : decode cX2_move 46 = .ok (.iastore, 1) := by decide +kernel
theorem dX2_move_47 : decode cX2_move 47 = .ok (.aload_n 0, 1) := by decide +kernel
theorem dX2_move_48 : decode cX2_move 48 = .ok (.getfield 18, 3) := by decide +kernel
theorem dX2_move_51 : decode cX2_move 51 = .ok (.iload_n 1, 1) := by decide +kernel
theorem dX2_move_52 : decode cX2_move 52 = .ok (.iaload, 1) := by decide +kernel
theorem dX2_move_53 : decode cX2_move 53 = .ok (.aload_n 0, 1) := by decide +kernel
theorem dX2_move_54 : decode cX2_move 54 = .ok (.getfield 24, 3) := by decide +kernel
theorem dX2_move_57 : decode cX2_move 57 = .ok (.iload_n 1, 1) := by decide +kernel
theorem dX2_move_58 : decode cX2_move 58 = .ok (.iaload, 1) := by decide +kernel
theorem dX2_move_59 : decode cX2_move 59 = .ok (.iadd, 1) := by decide +kernel
theorem dX2_move_60 : decode cX2_move 60 = .ok (.istore_n 3, 1) := by decide +kernel
theorem dX2_move_61 : decode cX2_move 61 = .ok (.iload_n 3, 1) := by decide +kernel
theorem dX2_move_62 : decode cX2_move 62 = .ok (.iconst 1, 1) := by decide +kernel
theorem dX2_move_63 : decode cX2_move 63 = .ok (.bipush 47, 2) := by decide +kernel
theorem dX2_move_65 : decode cX2_move 65 = .ok (.invokestatic 92, 3) := by decide +kernel
theorem dX2_move_68 : decode cX2_move 68 = .ok (.ifCond .eq 13, 3) := by decide +kernel
theorem dX2_move_71 : decode cX2_move 71 = .ok (.aload_n 0, 1) := by decide +kernel
theorem dX2_move_72 : decode cX2_move 72 = .ok (.getfield 18, 3) := by decide +kernel
theorem dX2_move_75 : decode cX2_move 75 = .ok (.iload_n 1, 1) := by decide +kernel
theorem dX2_move_76 : decode cX2_move 76 = .ok (.iload_n 3, 1) := by decide +kernel
theorem dX2_move_77 : decode cX2_move 77 = .ok (.iastore, 1) := by decide +kernel
theorem dX2_move_78 : decode cX2_move 78 = .ok (.goto 16, 3) := by decide +kernel
theorem dX2_move_81 : decode cX2_move 81 = .ok (.aload_n 0, 1) := by decide +kernel
theorem dX2_move_82 : decode cX2_move 82 = .ok (.getfield 24, 3) := by decide +kernel
theorem dX2_move_85 : decode cX2_move 85 = .ok (.iload_n 1, 1) := by decide +kernel
theorem dX2_move_86 : decode cX2_move 86 = .ok (.aload_n 0, 1) := by decide +kernel
theorem dX2_move_87 : decode cX2_move 87 = .ok (.getfield 24, 3) := by decide +kernel
theorem dX2_move_90 : decode cX2_move 90 = .ok (.iload_n 1, 1) := by decide +kernel
theorem dX2_move_91 : decode cX2_move 91 = .ok (.iaload, 1) := by decide +kernel
theorem dX2_move_92 : decode cX2_move 92 = .ok (.ineg, 1) := by decide +kernel
theorem dX2_move_93 : decode cX2_move 93 = .ok (.iastore, 1) := by decide +kernel
theorem dX2_move_94 : decode cX2_move 94 = .ok (.return_, 1) := by decide +kernel
theorem dX2_sliding_0 : decode cX2_sliding 0 = .ok (.iconst 1, 1) := by decide +kernel
theorem dX2_sliding_1 : decode cX2_sliding 1 = .ok (.aload_n 0, 1) := by decide +kernel
theorem dX2_sliding_2 : decode cX2_sliding 2 = .ok (.getfield 21, 3) := by decide +kernel
theorem dX2_sliding_5 : decode cX2_sliding 5 = .ok (.iload_n 1, 1) := by decide +kernel
theorem dX2_sliding_6 : decode cX2_sliding 6 = .ok (.iaload, 1) := by decide +kernel
theorem dX2_sliding_7 : decode cX2_sliding 7 = .ok (.aload_n 0, 1) := by decide +kernel
theorem dX2_sliding_8 : decode cX2_sliding 8 = .ok (.getfield 21, 3) := by decide +kernel
theorem dX2_sliding_11 : decode cX2_sliding 11 = .ok (.iload_n 2, 1) := by decide +kernel
theorem dX2_sliding_12 : decode cX2_sliding 12 = .ok (.iaload, 1) := by decide +kernel
theorem dX2_sliding_13 : decode cX2_sliding 13 = .ok (.isub, 1) := by decide +kernel
theorem dX2_sliding_14 : decode cX2_sliding 14 = .ok (.invokestatic 88, 3) := by decide +kernel
theorem dX2_sliding_17 : decode cX2_sliding 17 = .ok (.iadd, 1) := by decide +kernel
theorem dX2_sliding_18 : decode cX2_sliding 18 = .ok (.aload_n 0, 1) := by decide +kernel
theorem dX2_sliding_19 : decode cX2_sliding 19 = .ok (.getfield 24, 3) := by decide +kernel
theorem dX2_sliding_22 : decode cX2_sliding 22 = .ok (.iload_n 1, 1) := by decide +kernel
theorem dX2_sliding_23 : decode cX2_sliding 23 = .ok (.iaload, 1) := by decide +kernel
theorem dX2_sliding_24 : decode cX2_sliding 24 = .ok (.aload_n 0, 1) := by decide +kernel
theorem dX2_sliding_25 : decode cX2_sliding 25 = .ok (.getfield 24, 3) := by decide +kernel
theorem dX2_sliding_28 : decode cX2_sliding 28 = .ok (.iload_n 2, 1) := by decide +kernel
theorem dX2_sliding_29 : decode cX2_sliding 29 = .ok (.iaload, 1) := by decide +kernel
theorem dX2_sliding_30 : decode cX2_sliding 30 = .ok (.isub, 1) := by decide +kernel
theorem dX2_sliding_31 : decode cX2_sliding 31 = .ok (.invokestatic 88, 3) := by decide +kernel
theorem dX2_sliding_34 : decode cX2_sliding 34 = .ok (.iadd, 1) := by decide +kernel
theorem dX2_sliding_35 : decode cX2_sliding 35 = .ok (.ireturn, 1) := by decide +kernel
theorem dX2_rubbing_0 : decode cX2_rubbing 0 = .ok (.aload_n 0, 1) := by decide +kernel
theorem dX2_rubbing_1 : decode cX2_rubbing 1 = .ok (.iload_n 1, 1) := by decide +kernel
theorem dX2_rubbing_2 : decode cX2_rubbing 2 = .ok (.invokevirtual 80, 3) := by decide +kernel
theorem dX2_rubbing_5 : decode cX2_rubbing 5 = .ok (.ifCond .eq 11, 3) := by decide +kernel
theorem dX2_rubbing_8 : decode cX2_rubbing 8 = .ok (.aload_n 0, 1) := by decide +kernel
theorem dX2_rubbing_9 : decode cX2_rubbing 9 = .ok (.iload_n 2, 1) := by decide +kernel
theorem dX2_rubbing_10 : decode cX2_rubbing 10 = .ok (.invokevirtual 80, 3) := by decide +kernel
theorem dX2_rubbing_13 : decode cX2_rubbing 13 = .ok (.ifCond .ne 5, 3) := by decide +kernel
theorem dX2_rubbing_16 : decode cX2_rubbing 16 = .ok (.iconst 0, 1) := by decide +kernel
theorem dX2_rubbing_17 : decode cX2_rubbing 17 = .ok (.ireturn, 1) := by decide +kernel
theorem dX2_rubbing_18 : decode cX2_rubbing 18 = .ok (.aload_n 0, 1) := by decide +kernel
theorem dX2_rubbing_19 : decode cX2_rubbing 19 = .ok (.getfield 27, 3) := by decide +kernel
theorem dX2_rubbing_22 : decode cX2_rubbing 22 = .ok (.iload_n 2, 1) := by decide +kernel
theorem dX2_rubbing_23 : decode cX2_rubbing 23 = .ok (.iaload, 1) := by decide +kernel
theorem dX2_rubbing_24 : decode cX2_rubbing 24 = .ok (.aload_n 0, 1) := by decide +kernel
theorem dX2_rubbing_25 : decode cX2_rubbing 25 = .ok (.iload_n 1, 1) := by decide +kernel
theorem dX2_rubbing_26 : decode cX2_rubbing 26 = .ok (.iload_n 2, 1) := by decide +kernel
theorem dX2_rubbing_27 : decode cX2_rubbing 27 = .ok (.invokevirtual 96, 3) := by decide +kernel
theorem dX2_rubbing_30 : decode cX2_rubbing 30 = .ok (.imul, 1) := by decide +kernel
theorem dX2_rubbing_31 : decode cX2_rubbing 31 = .ok (.istore 4, 2) := by decide +kernel
theorem dX2_rubbing_33 : decode cX2_rubbing 33 = .ok (.iload_n 3, 1) := by decide +kernel
theorem dX2_rubbing_34 : decode cX2_rubbing 34 = .ok (.ifCond .eq 10, 3) := by decide +kernel
theorem dX2_rubbing_37 : decode cX2_rubbing 37 = .ok (.iconst 2, 1) := by decide +kernel
theorem dX2_rubbing_38 : decode cX2_rubbing 38 = .ok (.iload 4, 2) := by decide +kernel
theorem dX2_rubbing_40 : decode cX2_rubbing 40 = .ok (.imul, 1) := by decide +kernel
theorem dX2_rubbing_41 : decode cX2_rubbing 41 = .ok (.goto 5, 3) := by decide +kernel
theorem dX2_rubbing_44 : decode cX2_rubbing 44 = .ok (.iload 4, 2) := by decide +kernel
theorem dX2_rubbing_46 : decode cX2_rubbing 46 = .ok (.ireturn, 1) := by decide +kernel
theorem dX2_hasPlace_0 : decode cX2_hasPlace 0 = .ok (.aload_n 0, 1) := by decide +kernel
theorem dX2_hasPlace_1 : decode cX2_hasPlace 1 = .ok (.iload_n 1, 1) := by decide +kernel
theorem dX2_hasPlace_2 : decode cX2_hasPlace 2 = .ok (.invokevirtual 80, 3) := by decide +kernel
theorem dX2_hasPlace_5 : decode cX2_hasPlace 5 = .ok (.ifCond .eq 17, 3) := by decide +kernel
theorem dX2_hasPlace_8 : decode cX2_hasPlace 8 = .ok (.iload_n 2, 1) := by decide +kernel
theorem dX2_hasPlace_9 : decode cX2_hasPlace 9 = .ok (.iconst 0, 1) := by decide +kernel
theorem dX2_hasPlace_10 : decode cX2_hasPlace 10 = .ok (.bipush 31, 2) := by decide +kernel
theorem dX2_hasPlace_12 : decode cX2_hasPlace 12 = .ok (.invokestatic 92, 3) := by decide +kernel
theorem dX2_hasPlace_15 : decode cX2_hasPlace 15 = .ok (.ifCond .eq 7, 3) := by decide +kernel
theorem dX2_hasPlace_18 : decode cX2_hasPlace 18 = .ok (.iconst 1, 1) := by decide +kernel
theorem dX2_hasPlace_19 : decode cX2_hasPlace 19 = .ok (.goto 4, 3) := by decide +kernel
theorem dX2_hasPlace_22 : decode cX2_hasPlace 22 = .ok (.iconst 0, 1) := by decide +kernel
theorem dX2_hasPlace_23 : decode cX2_hasPlace 23 = .ok (.ireturn, 1) := by decide +kernel
theorem dX2_wearAt_0 : decode cX2_wearAt 0 = .ok (.aload_n 0, 1) := by decide +kernel
theorem dX2_wearAt_1 : decode cX2_wearAt 1 = .ok (.iload_n 1, 1) := by decide +kernel
theorem dX2_wearAt_2 : decode cX2_wearAt 2 = .ok (.iload_n 2, 1) := by decide +kernel
theorem dX2_wearAt_3 : decode cX2_wearAt 3 = .ok (.invokevirtual 99, 3) := by decide +kernel
theorem dX2_wearAt_6 : decode cX2_wearAt 6 = .ok (.ifCond .eq 17, 3) := by decide +kernel
theorem dX2_wearAt_9 : decode cX2_wearAt 9 = .ok (.aload_n 0, 1) := by decide +kernel
theorem dX2_wearAt_10 : decode cX2_wearAt 10 = .ok (.getfield 48, 3) := by decide +kernel
theorem dX2_wearAt_13 : decode cX2_wearAt 13 = .ok (.iload_n 1, 1) := by decide +kernel
theorem dX2_wearAt_14 : decode cX2_wearAt 14 = .ok (.bipush 32, 2) := by decide +kernel
theorem dX2_wearAt_16 : decode cX2_wearAt 16 = .ok (.imul, 1) := by decide +kernel
theorem dX2_wearAt_17 : decode cX2_wearAt 17 = .ok (.iload_n 2, 1) := by decide +kernel
theorem dX2_wearAt_18 : decode cX2_wearAt 18 = .ok (.iadd, 1) := by decide +kernel
theorem dX2_wearAt_19 : decode cX2_wearAt 19 = .ok (.iaload, 1) := by decide +kernel
theorem dX2_wearAt_20 : decode cX2_wearAt 20 = .ok (.goto 4, 3) := by decide +kernel
theorem dX2_wearAt_23 : decode cX2_wearAt 23 = .ok (.iconst 0, 1) := by decide +kernel
theorem dX2_wearAt_24 : decode cX2_wearAt 24 = .ok (.ireturn, 1) := by decide +kernel
theorem dX2_wearDown_0 : decode cX2_wearDown 0 = .ok (.aload_n 0, 1) := by decide +kernel
theorem dX2_wearDown_1 : decode cX2_wearDown 1 = .ok (.iload_n 1, 1) := by decide +kernel
theorem dX2_wearDown_2 : decode cX2_wearDown 2 = .ok (.iload_n 2, 1) := by decide +kernel
theorem dX2_wearDown_3 : decode cX2_wearDown 3 = .ok (.invokevirtual 99, 3) := by decide +kernel
theorem dX2_wearDown_6 : decode cX2_wearDown 6 = .ok (.ifCond .eq 18, 3) := by decide +kernel
theorem dX2_wearDown_9 : decode cX2_wearDown 9 = .ok (.aload_n 0, 1) := by decide +kernel
theorem dX2_wearDown_10 : decode cX2_wearDown 10 = .ok (.getfield 48, 3) := by decide +kernel
theorem dX2_wearDown_13 : decode cX2_wearDown 13 = .ok (.iload_n 1, 1) := by decide +kernel
theorem dX2_wearDown_14 : decode cX2_wearDown 14 = .ok (.bipush 32, 2) := by decide +kernel
theorem dX2_wearDown_16 : decode cX2_wearDown 16 = .ok (.imul, 1) := by decide +kernel
theorem dX2_wearDown_17 : decode cX2_wearDown 17 = .ok (.iload_n 2, 1) := by decide +kernel
theorem dX2_wearDown_18 : decode cX2_wearDown 18 = .ok (.iadd, 1) := by decide +kernel
theorem dX2_wearDown_19 : decode cX2_wearDown 19 = .ok (.dup2, 1) := by decide +kernel
theorem dX2_wearDown_20 : decode cX2_wearDown 20 = .ok (.iaload, 1) := by decide +kernel
theorem dX2_wearDown_21 : decode cX2_wearDown 21 = .ok (.iload_n 3, 1) := by decide +kernel
theorem dX2_wearDown_22 : decode cX2_wearDown 22 = .ok (.iadd, 1) := by decide +kernel
theorem dX2_wearDown_23 : decode cX2_wearDown 23 = .ok (.iastore, 1) := by decide +kernel
theorem dX2_wearDown_24 : decode cX2_wearDown 24 = .ok (.return_, 1) := by decide +kernel
theorem dX2_isWornThrough_0 : decode cX2_isWornThrough 0 = .ok (.aload_n 0, 1) := by decide +kernel
theorem dX2_isWornThrough_1 : decode cX2_isWornThrough 1 = .ok (.iload_n 1, 1) := by decide +kernel
theorem dX2_isWornThrough_2 : decode cX2_isWornThrough 2 = .ok (.invokevirtual 80, 3) := by decide +kernel
theorem dX2_isWornThrough_5 : decode cX2_isWornThrough 5 = .ok (.ifCond .eq 22, 3) := by decide +kernel
theorem dX2_isWornThrough_8 : decode cX2_isWornThrough 8 = .ok (.aload_n 0, 1) := by decide +kernel
theorem dX2_isWornThrough_9 : decode cX2_isWornThrough 9 = .ok (.iload_n 1, 1) := by decide +kernel
theorem dX2_isWornThrough_10 : decode cX2_isWornThrough 10 = .ok (.iload_n 2, 1) := by decide +kernel
theorem dX2_isWornThrough_11 : decode cX2_isWornThrough 11 = .ok (.invokevirtual 103, 3) := by decide +kernel
theorem dX2_isWornThrough_14 : decode cX2_isWornThrough 14 = .ok (.aload_n 0, 1) := by decide +kernel
theorem dX2_isWornThrough_15 : decode cX2_isWornThrough 15 = .ok (.getfield 30, 3) := by decide +kernel
theorem dX2_isWornThrough_18 : decode cX2_isWornThrough 18 = .ok (.iload_n 1, 1) := by decide +kernel
theorem dX2_isWornThrough_19 : decode cX2_isWornThrough 19 = .ok (.iaload, 1) := by decide +kernel
theorem dX2_isWornThrough_20 : decode cX2_isWornThrough 20 = .ok (.if_icmp .lt 7, 3) := by decide +kernel
theorem dX2_isWornThrough_23 : decode cX2_isWornThrough 23 = .ok (.iconst 1, 1) := by decide +kernel
theorem dX2_isWornThrough_24 : decode cX2_isWornThrough 24 = .ok (.goto 4, 3) := by decide +kernel
theorem dX2_isWornThrough_27 : decode cX2_isWornThrough 27 = .ok (.iconst 0, 1) := by decide +kernel
theorem dX2_isWornThrough_28 : decode cX2_isWornThrough 28 = .ok (.ireturn, 1) := by decide +kernel
theorem dX2_mostWornPlace_0 : decode cX2_mostWornPlace 0 = .ok (.iconst 0, 1) := by decide +kernel
theorem dX2_mostWornPlace_1 : decode cX2_mostWornPlace 1 = .ok (.istore_n 2, 1) := by decide +kernel
theorem dX2_mostWornPlace_2 : decode cX2_mostWornPlace 2 = .ok (.iconst 1, 1) := by decide +kernel
theorem dX2_mostWornPlace_3 : decode cX2_mostWornPlace 3 = .ok (.istore_n 3, 1) := by decide +kernel
theorem dX2_mostWornPlace_4 : decode cX2_mostWornPlace 4 = .ok (.iload_n 3, 1) := by decide +kernel
theorem dX2_mostWornPlace_5 : decode cX2_mostWornPlace 5 = .ok (.bipush 32, 2) := by decide +kernel
theorem dX2_mostWornPlace_7 : decode cX2_mostWornPlace 7 = .ok (.if_icmp .ge 26, 3) := by decide +kernel
theorem dX2_mostWornPlace_10 : decode cX2_mostWornPlace 10 = .ok (.aload_n 0, 1) := by decide +kernel
theorem dX2_mostWornPlace_11 : decode cX2_mostWornPlace 11 = .ok (.iload_n 1, 1) := by decide +kernel
theorem dX2_mostWornPlace_12 : decode cX2_mostWornPlace 12 = .ok (.iload_n 3, 1) := by decide +kernel
theorem dX2_mostWornPlace_13 : decode cX2_mostWornPlace 13 = .ok (.invokevirtual 103, 3) := by decide +kernel
theorem dX2_mostWornPlace_16 : decode cX2_mostWornPlace 16 = .ok (.aload_n 0, 1) := by decide +kernel
theorem dX2_mostWornPlace_17 : decode cX2_mostWornPlace 17 = .ok (.iload_n 1, 1) := by decide +kernel
theorem dX2_mostWornPlace_18 : decode cX2_mostWornPlace 18 = .ok (.iload_n 2, 1) := by decide +kernel
theorem dX2_mostWornPlace_19 : decode cX2_mostWornPlace 19 = .ok (.invokevirtual 103, 3) := by decide +kernel
theorem dX2_mostWornPlace_22 : decode cX2_mostWornPlace 22 = .ok (.if_icmp .le 5, 3) := by decide +kernel
theorem dX2_mostWornPlace_25 : decode cX2_mostWornPlace 25 = .ok (.iload_n 3, 1) := by decide +kernel
theorem dX2_mostWornPlace_26 : decode cX2_mostWornPlace 26 = .ok (.istore_n 2, 1) := by decide +kernel
theorem dX2_mostWornPlace_27 : decode cX2_mostWornPlace 27 = .ok (.iinc 3 1, 3) := by decide +kernel
theorem dX2_mostWornPlace_30 : decode cX2_mostWornPlace 30 = .ok (.goto (-26), 3) := by decide +kernel
theorem dX2_mostWornPlace_33 : decode cX2_mostWornPlace 33 = .ok (.iload_n 2, 1) := by decide +kernel
theorem dX2_mostWornPlace_34 : decode cX2_mostWornPlace 34 = .ok (.ireturn, 1) := by decide +kernel
theorem dX2_flyingKites_0 : decode cX2_flyingKites 0 = .ok (.iconst 0, 1) := by decide +kernel
theorem dX2_flyingKites_1 : decode cX2_flyingKites 1 = .ok (.istore_n 1, 1) := by decide +kernel
theorem dX2_flyingKites_2 : decode cX2_flyingKites 2 = .ok (.iconst 0, 1) := by decide +kernel
theorem dX2_flyingKites_3 : decode cX2_flyingKites 3 = .ok (.istore_n 2, 1) := by decide +kernel
theorem dX2_flyingKites_4 : decode cX2_flyingKites 4 = .ok (.iload_n 2, 1) := by decide +kernel
theorem dX2_flyingKites_5 : decode cX2_flyingKites 5 = .ok (.bipush 6, 2) := by decide +kernel
theorem dX2_flyingKites_7 : decode cX2_flyingKites 7 = .ok (.if_icmp .ge 23, 3) := by decide +kernel
theorem dX2_flyingKites_10 : decode cX2_flyingKites 10 = .ok (.aload_n 0, 1) := by decide +kernel
theorem dX2_flyingKites_11 : decode cX2_flyingKites 11 = .ok (.iload_n 2, 1) := by decide +kernel
theorem dX2_flyingKites_12 : decode cX2_flyingKites 12 = .ok (.invokevirtual 106, 3) := by decide +kernel
theorem dX2_flyingKites_15 : decode cX2_flyingKites 15 = .ok (.ifCond .eq 9, 3) := by decide +kernel
theorem dX2_flyingKites_18 : decode cX2_flyingKites 18 = .ok (.iload_n 1, 1) := by decide +kernel
theorem dX2_flyingKites_19 : decode cX2_flyingKites 19 = .ok (.iconst 1, 1) := by decide +kernel
theorem dX2_flyingKites_20 : decode cX2_flyingKites 20 = .ok (.iload_n 2, 1) := by decide +kernel
theorem dX2_flyingKites_21 : decode cX2_flyingKites 21 = .ok (.ishl, 1) := by decide +kernel
theorem dX2_flyingKites_22 : decode cX2_flyingKites 22 = .ok (.ior, 1) := by decide +kernel
theorem dX2_flyingKites_23 : decode cX2_flyingKites 23 = .ok (.istore_n 1, 1) := by decide +kernel
theorem dX2_flyingKites_24 : decode cX2_flyingKites 24 = .ok (.iinc 2 1, 3) := by decide +kernel
theorem dX2_flyingKites_27 : decode cX2_flyingKites 27 = .ok (.goto (-23), 3) := by decide +kernel
theorem dX2_flyingKites_30 : decode cX2_flyingKites 30 = .ok (.iload_n 1, 1) := by decide +kernel
theorem dX2_flyingKites_31 : decode cX2_flyingKites 31 = .ok (.ireturn, 1) := by decide +kernel
theorem dX2_leader_0 : decode cX2_leader 0 = .ok (.aload_n 0, 1) := by decide +kernel
theorem dX2_leader_1 : decode cX2_leader 1 = .ok (.getfield 51, 3) := by decide +kernel
theorem dX2_leader_4 : decode cX2_leader 4 = .ok (.ifCond .ne 6, 3) := by decide +kernel
theorem dX2_leader_7 : decode cX2_leader 7 = .ok (.bipush (-6), 2) := by decide +kernel
theorem dX2_leader_9 : decode cX2_leader 9 = .ok (.ireturn, 1) := by decide +kernel
theorem dX2_leader_10 : decode cX2_leader 10 = .ok (.iconst 0, 1) := by decide +kernel
theorem dX2_leader_11 : decode cX2_leader 11 = .ok (.istore_n 1, 1) := by decide +kernel
theorem dX2_leader_12 : decode cX2_leader 12 = .ok (.iconst 1, 1) := by decide +kernel
theorem dX2_leader_13 : decode cX2_leader 13 = .ok (.istore_n 2, 1) := by decide +kernel
theorem dX2_leader_14 : decode cX2_leader 14 = .ok (.iload_n 2, 1) := by decide +kernel
theorem dX2_leader_15 : decode cX2_leader 15 = .ok (.bipush 6, 2) := by decide +kernel
theorem dX2_leader_17 : decode cX2_leader 17 = .ok (.if_icmp .ge 34, 3) := by decide +kernel
theorem dX2_leader_20 : decode cX2_leader 20 = .ok (.aload_n 0, 1) := by decide +kernel
theorem dX2_leader_21 : decode cX2_leader 21 = .ok (.iload_n 2, 1) := by decide +kernel
theorem dX2_leader_22 : decode cX2_leader 22 = .ok (.invokevirtual 80, 3) := by decide +kernel
theorem dX2_leader_25 : decode cX2_leader 25 = .ok (.ifCond .eq 20, 3) := by decide +kernel
theorem dX2_leader_28 : decode cX2_leader 28 = .ok (.aload_n 0, 1) := by decide +kernel
theorem dX2_leader_29 : decode cX2_leader 29 = .ok (.getfield 33, 3) := by decide +kernel
theorem dX2_leader_32 : decode cX2_leader 32 = .ok (.iload_n 2, 1) := by decide +kernel
theorem dX2_leader_33 : decode cX2_leader 33 = .ok (.iaload, 1) := by decide +kernel
theorem dX2_leader_34 : decode cX2_leader 34 = .ok (.aload_n 0, 1) := by decide +kernel
theorem dX2_leader_35 : decode cX2_leader 35 = .ok (.getfield 33, 3) := by decide +kernel
theorem dX2_leader_38 : decode cX2_leader 38 = .ok (.iload_n 1, 1) := by decide +kernel
theorem dX2_leader_39 : decode cX2_leader 39 = .ok (.iaload, 1) := by decide +kernel
theorem dX2_leader_40 : decode cX2_leader 40 = .ok (.if_icmp .le 5, 3) := by decide +kernel
theorem dX2_leader_43 : decode cX2_leader 43 = .ok (.iload_n 2, 1) := by decide +kernel
theorem dX2_leader_44 : decode cX2_leader 44 = .ok (.istore_n 1, 1) := by decide +kernel
theorem dX2_leader_45 : decode cX2_leader 45 = .ok (.iinc 2 1, 3) := by decide +kernel
theorem dX2_leader_48 : decode cX2_leader 48 = .ok (.goto (-34), 3) := by decide +kernel
theorem dX2_leader_51 : decode cX2_leader 51 = .ok (.iload_n 1, 1) := by decide +kernel
theorem dX2_leader_52 : decode cX2_leader 52 = .ok (.ireturn, 1) := by decide +kernel
theorem dX2_allPoints_0 : decode cX2_allPoints 0 = .ok (.iconst 0, 1) := by decide +kernel
theorem dX2_allPoints_1 : decode cX2_allPoints 1 = .ok (.istore_n 1, 1) := by decide +kernel
theorem dX2_allPoints_2 : decode cX2_allPoints 2 = .ok (.iconst 0, 1) := by decide +kernel
theorem dX2_allPoints_3 : decode cX2_allPoints 3 = .ok (.istore_n 2, 1) := by decide +kernel
theorem dX2_allPoints_4 : decode cX2_allPoints 4 = .ok (.iload_n 2, 1) := by decide +kernel
theorem dX2_allPoints_5 : decode cX2_allPoints 5 = .ok (.bipush 6, 2) := by decide +kernel
theorem dX2_allPoints_7 : decode cX2_allPoints 7 = .ok (.if_icmp .ge 26, 3) := by decide +kernel
theorem dX2_allPoints_10 : decode cX2_allPoints 10 = .ok (.aload_n 0, 1) := by decide +kernel
theorem dX2_allPoints_11 : decode cX2_allPoints 11 = .ok (.iload_n 2, 1) := by decide +kernel
theorem dX2_allPoints_12 : decode cX2_allPoints 12 = .ok (.invokevirtual 80, 3) := by decide +kernel
theorem dX2_allPoints_15 : decode cX2_allPoints 15 = .ok (.ifCond .eq 12, 3) := by decide +kernel
theorem dX2_allPoints_18 : decode cX2_allPoints 18 = .ok (.iload_n 1, 1) := by decide +kernel
theorem dX2_allPoints_19 : decode cX2_allPoints 19 = .ok (.aload_n 0, 1) := by decide +kernel
theorem dX2_allPoints_20 : decode cX2_allPoints 20 = .ok (.getfield 33, 3) := by decide +kernel
theorem dX2_allPoints_23 : decode cX2_allPoints 23 = .ok (.iload_n 2, 1) := by decide +kernel
theorem dX2_allPoints_24 : decode cX2_allPoints 24 = .ok (.iaload, 1) := by decide +kernel
theorem dX2_allPoints_25 : decode cX2_allPoints 25 = .ok (.iadd, 1) := by decide +kernel
theorem dX2_allPoints_26 : decode cX2_allPoints 26 = .ok (.istore_n 1, 1) := by decide +kernel
theorem dX2_allPoints_27 : decode cX2_allPoints 27 = .ok (.iinc 2 1, 3) := by decide +kernel
theorem dX2_allPoints_30 : decode cX2_allPoints 30 = .ok (.goto (-26), 3) := by decide +kernel
theorem dX2_allPoints_33 : decode cX2_allPoints 33 = .ok (.iload_n 1, 1) := by decide +kernel
theorem dX2_allPoints_34 : decode cX2_allPoints 34 = .ok (.ireturn, 1) := by decide +kernel
theorem dX4_init_0 : decode cX4_init 0 = .ok (.aload_n 0, 1) := by decide +kernel
theorem dX4_init_1 : decode cX4_init 1 = .ok (.invokespecial 3, 3) := by decide +kernel
theorem dX4_init_4 : decode cX4_init 4 = .ok (.aload_n 0, 1) := by decide +kernel
theorem dX4_init_5 : decode cX4_init 5 = .ok (.new 9, 3) := by decide +kernel
theorem dX4_init_8 : decode cX4_init 8 = .ok (.dup, 1) := by decide +kernel
theorem dX4_init_9 : decode cX4_init 9 = .ok (.invokespecial 11, 3) := by decide +kernel
theorem dX4_init_12 : decode cX4_init 12 = .ok (.putfield 12, 3) := by decide +kernel
theorem dX4_init_15 : decode cX4_init 15 = .ok (.return_, 1) := by decide +kernel
theorem dX4_happenIn_0 : decode cX4_happenIn 0 = .ok (.iconst 0, 1) := by decide +kernel
theorem dX4_happenIn_1 : decode cX4_happenIn 1 = .ok (.istore_n 2, 1) := by decide +kernel
theorem dX4_happenIn_2 : decode cX4_happenIn 2 = .ok (.iload_n 2, 1) := by decide +kernel
theorem dX4_happenIn_3 : decode cX4_happenIn 3 = .ok (.bipush 6, 2) := by decide +kernel
theorem dX4_happenIn_5 : decode cX4_happenIn 5 = .ok (.if_icmp .ge 22, 3) := by decide +kernel
theorem dX4_happenIn_8 : decode cX4_happenIn 8 = .ok (.aload_n 1, 1) := by decide +kernel
theorem dX4_happenIn_9 : decode cX4_happenIn 9 = .ok (.iload_n 2, 1) := by decide +kernel
theorem dX4_happenIn_10 : decode cX4_happenIn 10 = .ok (.invokevirtual 18, 3) := by decide +kernel
theorem dX4_happenIn_13 : decode cX4_happenIn 13 = .ok (.ifCond .eq 8, 3) := by decide +kernel
theorem dX4_happenIn_16 : decode cX4_happenIn 16 = .ok (.aload_n 1, 1) := by decide +kernel
theorem dX4_happenIn_17 : decode cX4_happenIn 17 = .ok (.iload_n 2, 1) := by decide +kernel
theorem dX4_happenIn_18 : decode cX4_happenIn 18 = .ok (.invokevirtual 24, 3) := by decide +kernel
theorem dX4_happenIn_21 : decode cX4_happenIn 21 = .ok (.iinc 2 1, 3) := by decide +kernel
theorem dX4_happenIn_24 : decode cX4_happenIn 24 = .ok (.goto (-22), 3) := by decide +kernel
theorem dX4_happenIn_27 : decode cX4_happenIn 27 = .ok (.aload_n 1, 1) := by decide +kernel
theorem dX4_happenIn_28 : decode cX4_happenIn 28 = .ok (.dup, 1) := by decide +kernel
theorem dX4_happenIn_29 : decode cX4_happenIn 29 = .ok (.getfield 28, 3) := by decide +kernel
theorem dX4_happenIn_32 : decode cX4_happenIn 32 = .ok (.iconst 1, 1) := by decide +kernel
theorem dX4_happenIn_33 : decode cX4_happenIn 33 = .ok (.iadd, 1) := by decide +kernel
theorem dX4_happenIn_34 : decode cX4_happenIn 34 = .ok (.putfield 28, 3) := by decide +kernel
theorem dX4_happenIn_37 : decode cX4_happenIn 37 = .ok (.aload_n 0, 1) := by decide +kernel
theorem dX4_happenIn_38 : decode cX4_happenIn 38 = .ok (.iconst 0, 1) := by decide +kernel
theorem dX4_happenIn_39 : decode cX4_happenIn 39 = .ok (.putfield 32, 3) := by decide +kernel
theorem dX4_happenIn_42 : decode cX4_happenIn 42 = .ok (.aload_n 0, 1) := by decide +kernel
theorem dX4_happenIn_43 : decode cX4_happenIn 43 = .ok (.iconst 0, 1) := by decide +kernel
theorem dX4_happenIn_44 : decode cX4_happenIn 44 = .ok (.putfield 35, 3) := by decide +kernel
theorem dX4_happenIn_47 : decode cX4_happenIn 47 = .ok (.aload_n 0, 1) := by decide +kernel
theorem dX4_happenIn_48 : decode cX4_happenIn 48 = .ok (.getfield 12, 3) := by decide +kernel
theorem dX4_happenIn_51 : decode cX4_happenIn 51 = .ok (.aload_n 1, 1) := by decide +kernel
theorem dX4_happenIn_52 : decode cX4_happenIn 52 = .ok (.invokevirtual 38, 3) := by decide +kernel
theorem dX4_happenIn_55 : decode cX4_happenIn 55 = .ok (.aload_n 0, 1) := by decide +kernel
theorem dX4_happenIn_56 : decode cX4_happenIn 56 = .ok (.aload_n 1, 1) := by decide +kernel
theorem dX4_happenIn_57 : decode cX4_happenIn 57 = .ok (.invokevirtual 42, 3) := by decide +kernel
theorem dX4_happenIn_60 : decode cX4_happenIn 60 = .ok (.aload_n 0, 1) := by decide +kernel
theorem dX4_happenIn_61 : decode cX4_happenIn 61 = .ok (.aload_n 1, 1) := by decide +kernel
theorem dX4_happenIn_62 : decode cX4_happenIn 62 = .ok (.invokevirtual 45, 3) := by decide +kernel
theorem dX4_happenIn_65 : decode cX4_happenIn 65 = .ok (.aload_n 0, 1) := by decide +kernel
theorem dX4_happenIn_66 : decode cX4_happenIn 66 = .ok (.getfield 32, 3) := by decide +kernel
theorem dX4_happenIn_69 : decode cX4_happenIn 69 = .ok (.ifCond .eq 8, 3) := by decide +kernel
theorem dX4_happenIn_72 : decode cX4_happenIn 72 = .ok (.aload_n 0, 1) := by decide +kernel
theorem dX4_happenIn_73 : decode cX4_happenIn 73 = .ok (.aload_n 1, 1) := by decide +kernel
theorem dX4_happenIn_74 : decode cX4_happenIn 74 = .ok (.invokevirtual 48, 3) := by decide +kernel
theorem dX4_happenIn_77 : decode cX4_happenIn 77 = .ok (.return_, 1) := by decide +kernel
theorem dX4_wearStrings_0 : decode cX4_wearStrings 0 = .ok (.iconst 0, 1) := by decide +kernel
theorem dX4_wearStrings_1 : decode cX4_wearStrings 1 = .ok (.istore_n 2, 1) := by decide +kernel
theorem dX4_wearStrings_2 : decode cX4_wearStrings 2 = .ok (.iload_n 2, 1) := by decide +kernel
theorem dX4_wearStrings_3 : decode cX4_wearStrings 3 = .ok (.aload_n 0, 1) := by decide +kernel
theorem dX4_wearStrings_4 : decode cX4_wearStrings 4 = .ok (.getfield 12, 3) := by decide +kernel
theorem dX4_wearStrings_7 : decode cX4_wearStrings 7 = .ok (.getfield 51, 3) := by decide +kernel
theorem dX4_wearStrings_10 : decode cX4_wearStrings 10 = .ok (.if_icmp .ge 66, 3) := by decide +kernel
theorem dX4_wearStrings_13 : decode cX4_wearStrings 13 = .ok (.iload_n 2, 1) := by decide +kernel
theorem dX4_wearStrings_14 : decode cX4_wearStrings 14 = .ok (.bipush 30, 2) := by decide +kernel
theorem dX4_wearStrings_16 : decode cX4_wearStrings 16 = .ok (.if_icmp .ge 60, 3) := by decide +kernel
theorem dX4_wearStrings_19 : decode cX4_wearStrings 19 = .ok (.aload_n 0, 1) := by decide +kernel
theorem dX4_wearStrings_20 : decode cX4_wearStrings 20 = .ok (.getfield 12, 3) := by decide +kernel
theorem dX4_wearStrings_23 : decode cX4_wearStrings 23 = .ok (.getfield 54, 3) := by decide +kernel
theorem dX4_wearStrings_26 : decode cX4_wearStrings 26 = .ok (.iload_n 2, 1) := by decide +kernel
theorem dX4_wearStrings_27 : decode cX4_wearStrings 27 = .ok (.iaload, 1) := by decide +kernel
theorem dX4_wearStrings_28 : decode cX4_wearStrings 28 = .ok (.istore_n 3, 1) := by decide +kernel
theorem dX4_wearStrings_29 : decode cX4_wearStrings 29 = .ok (.aload_n 1, 1) := by decide +kernel
theorem dX4_wearStrings_30 : decode cX4_wearStrings 30 = .ok (.iload_n 3, 1) := by decide +kernel
theorem dX4_wearStrings_31 : decode cX4_wearStrings 31 = .ok (.aload_n 0, 1) := by decide +kernel
theorem dX4_wearStrings_32 : decode cX4_wearStrings 32 = .ok (.getfield 12, 3) := by decide +kernel
theorem dX4_wearStrings_35 : decode cX4_wearStrings 35 = .ok (.getfield 58, 3) := by decide +kernel
theorem dX4_wearStrings_38 : decode cX4_wearStrings 38 = .ok (.iload_n 2, 1) := by decide +kernel
theorem dX4_wearStrings_39 : decode cX4_wearStrings 39 = .ok (.iaload, 1) := by decide +kernel
theorem dX4_wearStrings_40 : decode cX4_wearStrings 40 = .ok (.aload_n 0, 1) := by decide +kernel
theorem dX4_wearStrings_41 : decode cX4_wearStrings 41 = .ok (.getfield 12, 3) := by decide +kernel
theorem dX4_wearStrings_44 : decode cX4_wearStrings 44 = .ok (.getfield 61, 3) := by decide +kernel
theorem dX4_wearStrings_47 : decode cX4_wearStrings 47 = .ok (.iload_n 2, 1) := by decide +kernel
theorem dX4_wearStrings_48 : decode cX4_wearStrings 48 = .ok (.baload, 1) := by decide +kernel
theorem dX4_wearStrings_49 : decode cX4_wearStrings 49 = .ok (.invokevirtual 65, 3) := by decide +kernel
theorem dX4_wearStrings_52 : decode cX4_wearStrings 52 = .ok (.istore 4, 2) := by decide +kernel
theorem dX4_wearStrings_54 : decode cX4_wearStrings 54 = .ok (.aload_n 1, 1) := by decide +kernel
theorem dX4_wearStrings_55 : decode cX4_wearStrings 55 = .ok (.iload_n 3, 1) := by decide +kernel
theorem dX4_wearStrings_56 : decode cX4_wearStrings 56 = .ok (.aload_n 0, 1) := by decide +kernel
theorem dX4_wearStrings_57 : decode cX4_wearStrings 57 = .ok (.getfield 12, 3) := by decide +kernel
theorem dX4_wearStrings_60 : decode cX4_wearStrings 60 = .ok (.getfield 69, 3) := by decide +kernel
theorem dX4_wearStrings_63 : decode cX4_wearStrings 63 = .ok (.iload_n 2, 1) := by decide +kernel
theorem dX4_wearStrings_64 : decode cX4_wearStrings 64 = .ok (.iaload, 1) := by decide +kernel
theorem dX4_wearStrings_65 : decode cX4_wearStrings 65 = .ok (.iload 4, 2) := by decide +kernel
theorem dX4_wearStrings_67 : decode cX4_wearStrings 67 = .ok (.invokevirtual 72, 3) := by decide +kernel
theorem dX4_wearStrings_70 : decode cX4_wearStrings 70 = .ok (.iinc 2 1, 3) := by decide +kernel
theorem dX4_wearStrings_73 : decode cX4_wearStrings 73 = .ok (.goto (-71), 3) := by decide +kernel
theorem dX4_wearStrings_76 : decode cX4_wearStrings 76 = .ok (.return_, 1) := by decide +kernel
theorem dX4_givePoints_0 : decode cX4_givePoints 0 = .ok (.iconst 0, 1) := by decide +kernel
theorem dX4_givePoints_1 : decode cX4_givePoints 1 = .ok (.istore_n 2, 1) := by decide +kernel
theorem dX4_givePoints_2 : decode cX4_givePoints 2 = .ok (.iload_n 2, 1) := by decide +kernel
theorem dX4_givePoints_3 : decode cX4_givePoints 3 = .ok (.aload_n 0, 1) := by decide +kernel
theorem dX4_givePoints_4 : decode cX4_givePoints 4 = .ok (.getfield 12, 3) := by decide +kernel
theorem dX4_givePoints_7 : decode cX4_givePoints 7 = .ok (.getfield 51, 3) := by decide +kernel
theorem dX4_givePoints_10 : decode cX4_givePoints 10 = .ok (.if_icmp .ge 98, 3) := by decide +kernel
theorem dX4_givePoints_13 : decode cX4_givePoints 13 = .ok (.iload_n 2, 1) := by decide +kernel
theorem dX4_givePoints_14 : decode cX4_givePoints 14 = .ok (.bipush 30, 2) := by decide +kernel
theorem dX4_givePoints_16 : decode cX4_givePoints 16 = .ok (.if_icmp .ge 92, 3) := by decide +kernel
theorem dX4_givePoints_19 : decode cX4_givePoints 19 = .ok (.aload_n 0, 1) := by decide +kernel
theorem dX4_givePoints_20 : decode cX4_givePoints 20 = .ok (.getfield 12, 3) := by decide +kernel
theorem dX4_givePoints_23 : decode cX4_givePoints 23 = .ok (.getfield 54, 3) := by decide +kernel
theorem dX4_givePoints_26 : decode cX4_givePoints 26 = .ok (.iload_n 2, 1) := by decide +kernel
theorem dX4_givePoints_27 : decode cX4_givePoints 27 = .ok (.iaload, 1) := by decide +kernel
theorem dX4_givePoints_28 : decode cX4_givePoints 28 = .ok (.istore_n 3, 1) := by decide +kernel
theorem dX4_givePoints_29 : decode cX4_givePoints 29 = .ok (.aload_n 0, 1) := by decide +kernel
theorem dX4_givePoints_30 : decode cX4_givePoints 30 = .ok (.getfield 12, 3) := by decide +kernel
theorem dX4_givePoints_33 : decode cX4_givePoints 33 = .ok (.getfield 58, 3) := by decide +kernel
theorem dX4_givePoints_36 : decode cX4_givePoints 36 = .ok (.iload_n 2, 1) := by decide +kernel
theorem dX4_givePoints_37 : decode cX4_givePoints 37 = .ok (.iaload, 1) := by decide +kernel
theorem dX4_givePoints_38 : decode cX4_givePoints 38 = .ok (.istore 4, 2) := by decide +kernel
theorem dX4_givePoints_40 : decode cX4_givePoints 40 = .ok (.aload_n 1, 1) := by decide +kernel
theorem dX4_givePoints_41 : decode cX4_givePoints 41 = .ok (.iload_n 3, 1) := by decide +kernel
theorem dX4_givePoints_42 : decode cX4_givePoints 42 = .ok (.aload_n 0, 1) := by decide +kernel
theorem dX4_givePoints_43 : decode cX4_givePoints 43 = .ok (.getfield 12, 3) := by decide +kernel
theorem dX4_givePoints_46 : decode cX4_givePoints 46 = .ok (.getfield 69, 3) := by decide +kernel
theorem dX4_givePoints_49 : decode cX4_givePoints 49 = .ok (.iload_n 2, 1) := by decide +kernel
theorem dX4_givePoints_50 : decode cX4_givePoints 50 = .ok (.iaload, 1) := by decide +kernel
theorem dX4_givePoints_51 : decode cX4_givePoints 51 = .ok (.invokevirtual 76, 3) := by decide +kernel
theorem dX4_givePoints_54 : decode cX4_givePoints 54 = .ok (.ifCond .eq 48, 3) := by decide +kernel
theorem dX4_givePoints_57 : decode cX4_givePoints 57 = .ok (.aload_n 1, 1) := by decide +kernel
theorem dX4_givePoints_58 : decode cX4_givePoints 58 = .ok (.iload 4, 2) := by decide +kernel
theorem dX4_givePoints_60 : decode cX4_givePoints 60 = .ok (.invokevirtual 80, 3) := by decide +kernel
theorem dX4_givePoints_63 : decode cX4_givePoints 63 = .ok (.ifCond .eq 39, 3) := by decide +kernel
theorem dX4_givePoints_66 : decode cX4_givePoints 66 = .ok (.aload_n 1, 1) := by decide +kernel
theorem dX4_givePoints_67 : decode cX4_givePoints 67 = .ok (.getfield 83, 3) := by decide +kernel
theorem dX4_givePoints_70 : decode cX4_givePoints 70 = .ok (.iload 4, 2) := by decide +kernel
theorem dX4_givePoints_72 : decode cX4_givePoints 72 = .ok (.dup2, 1) := by decide +kernel
theorem dX4_givePoints_73 : decode cX4_givePoints 73 = .ok (.iaload, 1) := by decide +kernel
theorem dX4_givePoints_74 : decode cX4_givePoints 74 = .ok (.iconst 1, 1) := by decide +kernel
theorem dX4_givePoints_75 : decode cX4_givePoints 75 = .ok (.iadd, 1) := by decide +kernel
theorem dX4_givePoints_76 : decode cX4_givePoints 76 = .ok (.iastore, 1) := by decide +kernel
theorem dX4_givePoints_77 : decode cX4_givePoints 77 = .ok (.aload_n 0, 1) := by decide +kernel
theorem dX4_givePoints_78 : decode cX4_givePoints 78 = .ok (.dup, 1) := by decide +kernel
theorem dX4_givePoints_79 : decode cX4_givePoints 79 = .ok (.getfield 35, 3) := by decide +kernel
theorem dX4_givePoints_82 : decode cX4_givePoints 82 = .ok (.iconst 1, 1) := by decide +kernel
theorem dX4_givePoints_83 : decode cX4_givePoints 83 = .ok (.iload 4, 2) := by decide +kernel
theorem dX4_givePoints_85 : decode cX4_givePoints 85 = .ok (.ishl, 1) := by decide +kernel
theorem dX4_givePoints_86 : decode cX4_givePoints 86 = .ok (.ior, 1) := by decide +kernel
theorem dX4_givePoints_87 : decode cX4_givePoints 87 = .ok (.putfield 35, 3) := by decide +kernel
theorem dX4_givePoints_90 : decode cX4_givePoints 90 = .ok (.aload_n 0, 1) := by decide +kernel
theorem dX4_givePoints_91 : decode cX4_givePoints 91 = .ok (.dup, 1) := by decide +kernel
theorem dX4_givePoints_92 : decode cX4_givePoints 92 = .ok (.getfield 32, 3) := by decide +kernel
theorem dX4_givePoints_95 : decode cX4_givePoints 95 = .ok (.iconst 1, 1) := by decide +kernel
theorem dX4_givePoints_96 : decode cX4_givePoints 96 = .ok (.iload_n 3, 1) := by decide +kernel
theorem dX4_givePoints_97 : decode cX4_givePoints 97 = .ok (.ishl, 1) := by decide +kernel
theorem dX4_givePoints_98 : decode cX4_givePoints 98 = .ok (.ior, 1) := by decide +kernel
theorem dX4_givePoints_99 : decode cX4_givePoints 99 = .ok (.putfield 32, 3) := by decide +kernel
theorem dX4_givePoints_102 : decode cX4_givePoints 102 = .ok (.iinc 2 1, 3) := by decide +kernel
theorem dX4_givePoints_105 : decode cX4_givePoints 105 = .ok (.goto (-103), 3) := by decide +kernel
theorem dX4_givePoints_108 : decode cX4_givePoints 108 = .ok (.return_, 1) := by decide +kernel
theorem dX4_cutStrings_0 : decode cX4_cutStrings 0 = .ok (.iconst 0, 1) := by decide +kernel
theorem dX4_cutStrings_1 : decode cX4_cutStrings 1 = .ok (.istore_n 2, 1) := by decide +kernel
theorem dX4_cutStrings_2 : decode cX4_cutStrings 2 = .ok (.iload_n 2, 1) := by decide +kernel
theorem dX4_cutStrings_3 : decode cX4_cutStrings 3 = .ok (.bipush 6, 2) := by decide +kernel
theorem dX4_cutStrings_5 : decode cX4_cutStrings 5 = .ok (.if_icmp .ge 38, 3) := by decide +kernel
theorem dX4_cutStrings_8 : decode cX4_cutStrings 8 = .ok (.aload_n 0, 1) := by decide +kernel
theorem dX4_cutStrings_9 : decode cX4_cutStrings 9 = .ok (.getfield 32, 3) := by decide +kernel
theorem dX4_cutStrings_12 : decode cX4_cutStrings 12 = .ok (.iload_n 2, 1) := by decide +kernel
theorem dX4_cutStrings_13 : decode cX4_cutStrings 13 = .ok (.ishr, 1) := by decide +kernel
theorem dX4_cutStrings_14 : decode cX4_cutStrings 14 = .ok (.iconst 1, 1) := by decide +kernel
theorem dX4_cutStrings_15 : decode cX4_cutStrings 15 = .ok (.iand, 1) := by decide +kernel
theorem dX4_cutStrings_16 : decode cX4_cutStrings 16 = .ok (.iconst 1, 1) := by decide +kernel
theorem dX4_cutStrings_17 : decode cX4_cutStrings 17 = .ok (.if_icmp .ne 20, 3) := by decide +kernel
theorem dX4_cutStrings_20 : decode cX4_cutStrings 20 = .ok (.aload_n 1, 1) := by decide +kernel
theorem dX4_cutStrings_21 : decode cX4_cutStrings 21 = .ok (.getfield 86, 3) := by decide +kernel
theorem dX4_cutStrings_24 : decode cX4_cutStrings 24 = .ok (.iload_n 2, 1) := by decide +kernel
theorem dX4_cutStrings_25 : decode cX4_cutStrings 25 = .ok (.iconst 1, 1) := by decide +kernel
theorem dX4_cutStrings_26 : decode cX4_cutStrings 26 = .ok (.iastore, 1) := by decide +kernel
theorem dX4_cutStrings_27 : decode cX4_cutStrings 27 = .ok (.aload_n 1, 1) := by decide +kernel
theorem dX4_cutStrings_28 : decode cX4_cutStrings 28 = .ok (.dup, 1) := by decide +kernel
theorem dX4_cutStrings_29 : decode cX4_cutStrings 29 = .ok (.getfield 89, 3) := by decide +kernel
theorem dX4_cutStrings_32 : decode cX4_cutStrings 32 = .ok (.iconst 1, 1) := by decide +kernel
theorem dX4_cutStrings_33 : decode cX4_cutStrings 33 = .ok (.iadd, 1) := by decide +kernel
theorem dX4_cutStrings_34 : decode cX4_cutStrings 34 = .ok (.putfield 89, 3) := by decide +kernel
theorem dX4_cutStrings_37 : decode cX4_cutStrings 37 = .ok (.iinc 2 1, 3) := by decide +kernel
theorem dX4_cutStrings_40 : decode cX4_cutStrings 40 = .ok (.goto (-38), 3) := by decide +kernel
theorem dX4_cutStrings_43 : decode cX4_cutStrings 43 = .ok (.return_, 1) := by decide +kernel
theorem dX5_init_0 : decode cX5_init 0 = .ok (.aload_n 0, 1) := by decide +kernel
theorem dX5_init_1 : decode cX5_init 1 = .ok (.invokespecial 3, 3) := by decide +kernel
theorem dX5_init_4 : decode cX5_init 4 = .ok (.aload_n 0, 1) := by decide +kernel
theorem dX5_init_5 : decode cX5_init 5 = .ok (.bipush 30, 2) := by decide +kernel
theorem dX5_init_7 : decode cX5_init 7 = .ok (.newarray .int, 2) := by decide +kernel
theorem dX5_init_9 : decode cX5_init 9 = .ok (.putfield 11, 3) := by decide +kernel
theorem dX5_init_12 : decode cX5_init 12 = .ok (.aload_n 0, 1) := by decide +kernel
theorem dX5_init_13 : decode cX5_init 13 = .ok (.bipush 30, 2) := by decide +kernel
theorem dX5_init_15 : decode cX5_init 15 = .ok (.newarray .int, 2) := by decide +kernel
theorem dX5_init_17 : decode cX5_init 17 = .ok (.putfield 15, 3) := by decide +kernel
theorem dX5_init_20 : decode cX5_init 20 = .ok (.aload_n 0, 1) := by decide +kernel
theorem dX5_init_21 : decode cX5_init 21 = .ok (.bipush 30, 2) := by decide +kernel
theorem dX5_init_23 : decode cX5_init 23 = .ok (.newarray .int, 2) := by decide +kernel
theorem dX5_init_25 : decode cX5_init 25 = .ok (.putfield 18, 3) := by decide +kernel
theorem dX5_init_28 : decode cX5_init 28 = .ok (.aload_n 0, 1) := by decide +kernel
theorem dX5_init_29 : decode cX5_init 29 = .ok (.bipush 30, 2) := by decide +kernel
theorem dX5_init_31 : decode cX5_init 31 = .ok (.newarray .boolean, 2) := by decide +kernel
theorem dX5_init_33 : decode cX5_init 33 = .ok (.putfield 21, 3) := by decide +kernel
theorem dX5_init_36 : decode cX5_init 36 = .ok (.return_, 1) := by decide +kernel
theorem dX5_measure_0 : decode cX5_measure 0 = .ok (.aload_n 0, 1) := by decide +kernel
theorem dX5_measure_1 : decode cX5_measure 1 = .ok (.iconst 0, 1) := by decide +kernel
theorem dX5_measure_2 : decode cX5_measure 2 = .ok (.putfield 25, 3) := by decide +kernel
theorem dX5_measure_5 : decode cX5_measure 5 = .ok (.iconst 0, 1) := by decide +kernel
theorem dX5_measure_6 : decode cX5_measure 6 = .ok (.istore_n 2, 1) := by decide +kernel
theorem dX5_measure_7 : decode cX5_measure 7 = .ok (.iload_n 2, 1) := by decide +kernel
theorem dX5_measure_8 : decode cX5_measure 8 = .ok (.bipush 6, 2) := by decide +kernel
theorem dX5_measure_10 : decode cX5_measure 10 = .ok (.if_icmp .ge 48, 3) := by decide +kernel
theorem dX5_measure_13 : decode cX5_measure 13 = .ok (.aload_n 1, 1) := by decide +kernel
theorem dX5_measure_14 : decode cX5_measure 14 = .ok (.iload_n 2, 1) := by decide +kernel
theorem dX5_measure_15 : decode cX5_measure 15 = .ok (.invokevirtual 29, 3) := by decide +kernel
theorem dX5_measure_18 : decode cX5_measure 18 = .ok (.ifCond .eq 34, 3) := by decide +kernel
theorem dX5_measure_21 : decode cX5_measure 21 = .ok (.iload_n 2, 1) := by decide +kernel
theorem dX5_measure_22 : decode cX5_measure 22 = .ok (.iconst 1, 1) := by decide +kernel
theorem dX5_measure_23 : decode cX5_measure 23 = .ok (.iadd, 1) := by decide +kernel
theorem dX5_measure_24 : decode cX5_measure 24 = .ok (.istore_n 3, 1) := by decide +kernel
theorem dX5_measure_25 : decode cX5_measure 25 = .ok (.iload_n 3, 1) := by decide +kernel
theorem dX5_measure_26 : decode cX5_measure 26 = .ok (.bipush 6, 2) := by decide +kernel
theorem dX5_measure_28 : decode cX5_measure 28 = .ok (.if_icmp .ge 24, 3) := by decide +kernel
theorem dX5_measure_31 : decode cX5_measure 31 = .ok (.aload_n 1, 1) := by decide +kernel
theorem dX5_measure_32 : decode cX5_measure 32 = .ok (.iload_n 3, 1) := by decide +kernel
theorem dX5_measure_33 : decode cX5_measure 33 = .ok (.invokevirtual 29, 3) := by decide +kernel
theorem dX5_measure_36 : decode cX5_measure 36 = .ok (.ifCond .eq 10, 3) := by decide +kernel
theorem dX5_measure_39 : decode cX5_measure 39 = .ok (.aload_n 0, 1) := by decide +kernel
theorem dX5_measure_40 : decode cX5_measure 40 = .ok (.aload_n 1, 1) := by decide +kernel
theorem dX5_measure_41 : decode cX5_measure 41 = .ok (.iload_n 2, 1) := by decide +kernel
theorem dX5_measure_42 : decode cX5_measure 42 = .ok (.iload_n 3, 1) := by decide +kernel
theorem dX5_measure_43 : decode cX5_measure 43 = .ok (.invokevirtual 35, 3) := by decide +kernel
theorem dX5_measure_46 : decode cX5_measure 46 = .ok (.iinc 3 1, 3) := by decide +kernel
theorem dX5_measure_49 : decode cX5_measure 49 = .ok (.goto (-24), 3) := by decide +kernel
theorem dX5_measure_52 : decode cX5_measure 52 = .ok (.iinc 2 1, 3) := by decide +kernel
theorem dX5_measure_55 : decode cX5_measure 55 = .ok (.goto (-48), 3) := by decide +kernel
theorem dX5_measure_58 : decode cX5_measure 58 = .ok (.return_, 1) := by decide +kernel
theorem dX5_measurePair_0 : decode cX5_measurePair 0 = .ok (.aload_n 1, 1) := by decide +kernel
theorem dX5_measurePair_1 : decode cX5_measurePair 1 = .ok (.getfield 39, 3) := by decide +kernel
theorem dX5_measurePair_4 : decode cX5_measurePair 4 = .ok (.iload_n 2, 1) := by decide +kernel
theorem dX5_measurePair_5 : decode cX5_measurePair 5 = .ok (.iaload, 1) := by decide +kernel
theorem dX5_measurePair_6 : decode cX5_measurePair 6 = .ok (.aload_n 1, 1) := by decide +kernel
theorem dX5_measurePair_7 : decode cX5_measurePair 7 = .ok (.getfield 42, 3) := by decide +kernel
theorem dX5_measurePair_10 : decode cX5_measurePair 10 = .ok (.iload_n 2, 1) := by decide +kernel
theorem dX5_measurePair_11 : decode cX5_measurePair 11 = .ok (.iaload, 1) := by decide +kernel
theorem dX5_measurePair_12 : decode cX5_measurePair 12 = .ok (.isub, 1) := by decide +kernel
theorem dX5_measurePair_13 : decode cX5_measurePair 13 = .ok (.istore 4, 2) := by decide +kernel
theorem dX5_measurePair_15 : decode cX5_measurePair 15 = .ok (.aload_n 1, 1) := by decide +kernel
theorem dX5_measurePair_16 : decode cX5_measurePair 16 = .ok (.getfield 45, 3) := by decide +kernel
theorem dX5_measurePair_19 : decode cX5_measurePair 19 = .ok (.iload_n 2, 1) := by decide +kernel
theorem dX5_measurePair_20 : decode cX5_measurePair 20 = .ok (.iaload, 1) := by decide +kernel
theorem dX5_measurePair_21 : decode cX5_measurePair 21 = .ok (.istore 5, 2) := by decide +kernel
theorem dX5_measurePair_23 : decode cX5_measurePair 23 = .ok (.aload_n 1, 1) := by decide +kernel
theorem dX5_measurePair_24 : decode cX5_measurePair 24 = .ok (.getfield 39, 3) := by decide +kernel
theorem dX5_measurePair_27 : decode cX5_measurePair 27 = .ok (.iload_n 3, 1) := by decide +kernel
theorem dX5_measurePair_28 : decode cX5_measurePair 28 = .ok (.iaload, 1) := by decide +kernel
theorem dX5_measurePair_29 : decode cX5_measurePair 29 = .ok (.aload_n 1, 1) := by decide +kernel
theorem dX5_measurePair_30 : decode cX5_measurePair 30 = .ok (.getfield 42, 3) := by decide +kernel
theorem dX5_measurePair_33 : decode cX5_measurePair 33 = .ok (.iload_n 3, 1) := by decide +kernel
theorem dX5_measurePair_34 : decode cX5_measurePair 34 = .ok (.iaload, 1) := by decide +kernel
theorem dX5_measurePair_35 : decode cX5_measurePair 35 = .ok (.isub, 1) := by decide +kernel
theorem dX5_measurePair_36 : decode cX5_measurePair 36 = .ok (.istore 6, 2) := by decide +kernel
theorem dX5_measurePair_38 : decode cX5_measurePair 38 = .ok (.aload_n 1, 1) := by decide +kernel
theorem dX5_measurePair_39 : decode cX5_measurePair 39 = .ok (.getfield 45, 3) := by decide +kernel
theorem dX5_measurePair_42 : decode cX5_measurePair 42 = .ok (.iload_n 3, 1) := by decide +kernel
theorem dX5_measurePair_43 : decode cX5_measurePair 43 = .ok (.iaload, 1) := by decide +kernel
theorem dX5_measurePair_44 : decode cX5_measurePair 44 = .ok (.istore 7, 2) := by decide +kernel
theorem dX5_measurePair_46 : decode cX5_measurePair 46 = .ok (.aload_n 1, 1) := by decide +kernel
theorem dX5_measurePair_47 : decode cX5_measurePair 47 = .ok (.getfield 42, 3) := by decide +kernel
theorem dX5_measurePair_50 : decode cX5_measurePair 50 = .ok (.iload_n 3, 1) := by decide +kernel
theorem dX5_measurePair_51 : decode cX5_measurePair 51 = .ok (.iaload, 1) := by decide +kernel
theorem dX5_measurePair_52 : decode cX5_measurePair 52 = .ok (.aload_n 1, 1) := by decide +kernel
theorem dX5_measurePair_53 : decode cX5_measurePair 53 = .ok (.getfield 42, 3) := by decide +kernel
theorem dX5_measurePair_56 : decode cX5_measurePair 56 = .ok (.iload_n 2, 1) := by decide +kernel
theorem dX5_measurePair_57 : decode cX5_measurePair 57 = .ok (.iaload, 1) := by decide +kernel
theorem dX5_measurePair_58 : decode cX5_measurePair 58 = .ok (.isub, 1) := by decide +kernel
theorem dX5_measurePair_59 : decode cX5_measurePair 59 = .ok (.istore 8, 2) := by decide +kernel
theorem dX5_measurePair_61 : decode cX5_measurePair 61 = .ok (.iload 4, 2) := by decide +kernel
theorem dX5_measurePair_63 : decode cX5_measurePair 63 = .ok (.iload 7, 2) := by decide +kernel
theorem dX5_measurePair_65 : decode cX5_measurePair 65 = .ok (.imul, 1) := by decide +kernel
theorem dX5_measurePair_66 : decode cX5_measurePair 66 = .ok (.iload 5, 2) := by decide +kernel
theorem dX5_measurePair_68 : decode cX5_measurePair 68 = .ok (.iload 6, 2) := by decide +kernel
theorem dX5_measurePair_70 : decode cX5_measurePair 70 = .ok (.imul, 1) := by decide +kernel
theorem dX5_measurePair_71 : decode cX5_measurePair 71 = .ok (.isub, 1) := by decide +kernel
theorem dX5_measurePair_72 : decode cX5_measurePair 72 = .ok (.istore 9, 2) := by decide +kernel
theorem dX5_measurePair_74 : decode cX5_measurePair 74 = .ok (.iload 9, 2) := by decide +kernel
theorem dX5_measurePair_76 : decode cX5_measurePair 76 = .ok (.invokestatic 48, 3) := by decide +kernel
theorem dX5_measurePair_79 : decode cX5_measurePair 79 = .ok (.istore 10, 2) := by decide +kernel
theorem dX5_measurePair_81 : decode cX5_measurePair 81 = .ok (.iload 10, 2) := by decide +kernel
theorem dX5_measurePair_83 : decode cX5_measurePair 83 = .ok (.ifCond .eq 11, 3) := by decide +kernel
theorem dX5_measurePair_86 : decode cX5_measurePair 86 = .ok (.iload 8, 2) := by decide +kernel
theorem dX5_measurePair_88 : decode cX5_measurePair 88 = .ok (.iload 9, 2) := by decide +kernel
theorem dX5_measurePair_90 : decode cX5_measurePair 90 = .ok (.imul, 1) := by decide +kernel
theorem dX5_measurePair_91 : decode cX5_measurePair 91 = .ok (.ifCond .gt 4, 3) := by decide +kernel
theorem dX5_measurePair_94 : decode cX5_measurePair 94 = .ok (.return_, 1) := by decide +kernel
theorem dX5_measurePair_95 : decode cX5_measurePair 95 = .ok (.iload 8, 2) := by decide +kernel
theorem dX5_measurePair_97 : decode cX5_measurePair 97 = .ok (.invokestatic 48, 3) := by decide +kernel
theorem dX5_measurePair_100 : decode cX5_measurePair 100 = .ok (.iload 7, 2) := by decide +kernel
theorem dX5_measurePair_102 : decode cX5_measurePair 102 = .ok (.imul, 1) := by decide +kernel
theorem dX5_measurePair_103 : decode cX5_measurePair 103 = .ok (.istore 11, 2) := by decide +kernel
theorem dX5_measurePair_105 : decode cX5_measurePair 105 = .ok (.iload 8, 2) := by decide +kernel
theorem dX5_measurePair_107 : decode cX5_measurePair 107 = .ok (.invokestatic 48, 3) := by decide +kernel
theorem dX5_measurePair_110 : decode cX5_measurePair 110 = .ok (.iload 5, 2) := by decide +kernel
theorem dX5_measurePair_112 : decode cX5_measurePair 112 = .ok (.imul, 1) := by decide +kernel
theorem dX5_measurePair_113 : decode cX5_measurePair 113 = .ok (.istore 12, 2) := by decide +kernel
theorem dX5_measurePair_115 : decode cX5_measurePair 115 = .ok (.iload 11, 2) := by decide +kernel
theorem dX5_measurePair_117 : decode cX5_measurePair 117 = .ok (.iload 10, 2) := by decide +kernel
theorem dX5_measurePair_119 : decode cX5_measurePair 119 = .ok (.if_icmp .ge 10, 3) := by decide +kernel
theorem dX5_measurePair_122 : decode cX5_measurePair 122 = .ok (.iload 12, 2) := by decide +kernel
theorem dX5_measurePair_124 : decode cX5_measurePair 124 = .ok (.iload 10, 2) := by decide +kernel
theorem dX5_measurePair_126 : decode cX5_measurePair 126 = .ok (.if_icmp .lt 4, 3) := by decide +kernel
theorem dX5_measurePair_129 : decode cX5_measurePair 129 = .ok (.return_, 1) := by decide +kernel
theorem dX5_measurePair_130 : decode cX5_measurePair 130 = .ok (.iload 10, 2) := by decide +kernel
theorem dX5_measurePair_132 : decode cX5_measurePair 132 = .ok (.iload 4, 2) := by decide +kernel
theorem dX5_measurePair_134 : decode cX5_measurePair 134 = .ok (.iload 6, 2) := by decide +kernel
theorem dX5_measurePair_136 : decode cX5_measurePair 136 = .ok (.imul, 1) := by decide +kernel
theorem dX5_measurePair_137 : decode cX5_measurePair 137 = .ok (.iload 5, 2) := by decide +kernel
theorem dX5_measurePair_139 : decode cX5_measurePair 139 = .ok (.iload 7, 2) := by decide +kernel
theorem dX5_measurePair_141 : decode cX5_measurePair 141 = .ok (.imul, 1) := by decide +kernel
theorem dX5_measurePair_142 : decode cX5_measurePair 142 = .ok (.iadd, 1) := by decide +kernel
theorem dX5_measurePair_143 : decode cX5_measurePair 143 = .ok (.invokestatic 48, 3) := by decide +kernel
theorem dX5_measurePair_146 : decode cX5_measurePair 146 = .ok (.if_icmp .lt 7, 3) := by decide +kernel
theorem dX5_measurePair_149 : decode cX5_measurePair 149 = .ok (.iconst 1, 1) := by decide +kernel
theorem dX5_measurePair_150 : decode cX5_measurePair 150 = .ok (.goto 4, 3) := by decide +kernel
theorem dX5_measurePair_153 : decode cX5_measurePair 153 = .ok (.iconst 0, 1) := by decide +kernel
theorem dX5_measurePair_154 : decode cX5_measurePair 154 = .ok (.istore 13, 2) := by decide +kernel
theorem dX5_measurePair_156 : decode cX5_measurePair 156 = .ok (.aload_n 0, 1) := by decide +kernel
theorem dX5_measurePair_157 : decode cX5_measurePair 157 = .ok (.iload_n 2, 1) := by decide +kernel
theorem dX5_measurePair_158 : decode cX5_measurePair 158 = .ok (.iload_n 3, 1) := by decide +kernel
theorem dX5_measurePair_159 : decode cX5_measurePair 159 = .ok (.bipush 32, 2) := by decide +kernel
theorem dX5_measurePair_161 : decode cX5_measurePair 161 = .ok (.iload 11, 2) := by decide +kernel
theorem dX5_measurePair_163 : decode cX5_measurePair 163 = .ok (.imul, 1) := by decide +kernel
theorem dX5_measurePair_164 : decode cX5_measurePair 164 = .ok (.iload 10, 2) := by decide +kernel
theorem dX5_measurePair_166 : decode cX5_measurePair 166 = .ok (.idiv, 1) := by decide +kernel
theorem dX5_measurePair_167 : decode cX5_measurePair 167 = .ok (.iload 13, 2) := by decide +kernel
theorem dX5_measurePair_169 : decode cX5_measurePair 169 = .ok (.invokevirtual 54, 3) := by decide +kernel
theorem dX5_measurePair_172 : decode cX5_measurePair 172 = .ok (.aload_n 0, 1) := by decide +kernel
theorem dX5_measurePair_173 : decode cX5_measurePair 173 = .ok (.iload_n 3, 1) := by decide +kernel
theorem dX5_measurePair_174 : decode cX5_measurePair 174 = .ok (.iload_n 2, 1) := by decide +kernel
theorem dX5_measurePair_175 : decode cX5_measurePair 175 = .ok (.bipush 32, 2) := by decide +kernel
theorem dX5_measurePair_177 : decode cX5_measurePair 177 = .ok (.iload 12, 2) := by decide +kernel
theorem dX5_measurePair_179 : decode cX5_measurePair 179 = .ok (.imul, 1) := by decide +kernel
theorem dX5_measurePair_180 : decode cX5_measurePair 180 = .ok (.iload 10, 2) := by decide +kernel
theorem dX5_measurePair_182 : decode cX5_measurePair 182 = .ok (.idiv, 1) := by decide +kernel
theorem dX5_measurePair_183 : decode cX5_measurePair 183 = .ok (.iload 13, 2) := by decide +kernel
theorem dX5_measurePair_185 : decode cX5_measurePair 185 = .ok (.invokevirtual 54, 3) := by decide +kernel
theorem dX5_measurePair_188 : decode cX5_measurePair 188 = .ok (.return_, 1) := by decide +kernel
theorem dX5_note_0 : decode cX5_note 0 = .ok (.aload_n 0, 1) := by decide +kernel
theorem dX5_note_1 : decode cX5_note 1 = .ok (.getfield 25, 3) := by decide +kernel
theorem dX5_note_4 : decode cX5_note 4 = .ok (.ifCond .lt 12, 3) := by decide +kernel
theorem dX5_note_7 : decode cX5_note 7 = .ok (.aload_n 0, 1) := by decide +kernel
theorem dX5_note_8 : decode cX5_note 8 = .ok (.getfield 25, 3) := by decide +kernel
theorem dX5_note_11 : decode cX5_note 11 = .ok (.bipush 30, 2) := by decide +kernel
theorem dX5_note_13 : decode cX5_note 13 = .ok (.if_icmp .lt 4, 3) := by decide +kernel
theorem dX5_note_16 : decode cX5_note 16 = .ok (.return_, 1) := by decide +kernel
theorem dX5_note_17 : decode cX5_note 17 = .ok (.aload_n 0, 1) := by decide +kernel
theorem dX5_note_18 : decode cX5_note 18 = .ok (.getfield 11, 3) := by decide +kernel
theorem dX5_note_21 : decode cX5_note 21 = .ok (.aload_n 0, 1) := by decide +kernel
theorem dX5_note_22 : decode cX5_note 22 = .ok (.getfield 25, 3) := by decide +kernel
theorem dX5_note_25 : decode cX5_note 25 = .ok (.iload_n 1, 1) := by decide +kernel
theorem dX5_note_26 : decode cX5_note 26 = .ok (.iastore, 1) := by decide +kernel
theorem dX5_note_27 : decode cX5_note 27 = .ok (.aload_n 0, 1) := by decide +kernel
theorem dX5_note_28 : decode cX5_note 28 = .ok (.getfield 15, 3) := by decide +kernel
theorem dX5_note_31 : decode cX5_note 31 = .ok (.aload_n 0, 1) := by decide +kernel
theorem dX5_note_32 : decode cX5_note 32 = .ok (.getfield 25, 3) := by decide +kernel
theorem dX5_note_35 : decode cX5_note 35 = .ok (.iload_n 2, 1) := by decide +kernel
theorem dX5_note_36 : decode cX5_note 36 = .ok (.iastore, 1) := by decide +kernel
theorem dX5_note_37 : decode cX5_note 37 = .ok (.aload_n 0, 1) := by decide +kernel
theorem dX5_note_38 : decode cX5_note 38 = .ok (.getfield 18, 3) := by decide +kernel
theorem dX5_note_41 : decode cX5_note 41 = .ok (.aload_n 0, 1) := by decide +kernel
theorem dX5_note_42 : decode cX5_note 42 = .ok (.getfield 25, 3) := by decide +kernel
theorem dX5_note_45 : decode cX5_note 45 = .ok (.iload_n 3, 1) := by decide +kernel
theorem dX5_note_46 : decode cX5_note 46 = .ok (.iastore, 1) := by decide +kernel
theorem dX5_note_47 : decode cX5_note 47 = .ok (.aload_n 0, 1) := by decide +kernel
theorem dX5_note_48 : decode cX5_note 48 = .ok (.getfield 21, 3) := by decide +kernel
theorem dX5_note_51 : decode cX5_note 51 = .ok (.aload_n 0, 1) := by decide +kernel
theorem dX5_note_52 : decode cX5_note 52 = .ok (.getfield 25, 3) := by decide +kernel
theorem dX5_note_55 : decode cX5_note 55 = .ok (.iload 4, 2) := by decide +kernel
theorem dX5_note_57 : decode cX5_note 57 = .ok (.bastore, 1) := by decide +kernel
theorem dX5_note_58 : decode cX5_note 58 = .ok (.aload_n 0, 1) := by decide +kernel
theorem dX5_note_59 : decode cX5_note 59 = .ok (.dup, 1) := by decide +kernel
theorem dX5_note_60 : decode cX5_note 60 = .ok (.getfield 25, 3) := by decide +kernel
theorem dX5_note_63 : decode cX5_note 63 = .ok (.iconst 1, 1) := by decide +kernel
theorem dX5_note_64 : decode cX5_note 64 = .ok (.iadd, 1) := by decide +kernel
theorem dX5_note_65 : decode cX5_note 65 = .ok (.putfield 25, 3) := by decide +kernel
theorem dX5_note_68 : decode cX5_note 68 = .ok (.return_, 1) := by decide +kernel
theorem dX5_crossings_0 : decode cX5_crossings 0 = .ok (.aload_n 0, 1) := by decide +kernel
theorem dX5_crossings_1 : decode cX5_crossings 1 = .ok (.getfield 25, 3) := by decide +kernel
theorem dX5_crossings_4 : decode cX5_crossings 4 = .ok (.iconst 2, 1) := by decide +kernel
theorem dX5_crossings_5 : decode cX5_crossings 5 = .ok (.idiv, 1) := by decide +kernel
theorem dX5_crossings_6 : decode cX5_crossings 6 = .ok (.ireturn, 1) := by decide +kernel
theorem dX5_noteOf_0 : decode cX5_noteOf 0 = .ok (.iconst 0, 1) := by decide +kernel
theorem dX5_noteOf_1 : decode cX5_noteOf 1 = .ok (.istore_n 3, 1) := by decide +kernel
theorem dX5_noteOf_2 : decode cX5_noteOf 2 = .ok (.iload_n 3, 1) := by decide +kernel
theorem dX5_noteOf_3 : decode cX5_noteOf 3 = .ok (.aload_n 0, 1) := by decide +kernel
theorem dX5_noteOf_4 : decode cX5_noteOf 4 = .ok (.getfield 25, 3) := by decide +kernel
theorem dX5_noteOf_7 : decode cX5_noteOf 7 = .ok (.if_icmp .ge 37, 3) := by decide +kernel
theorem dX5_noteOf_10 : decode cX5_noteOf 10 = .ok (.iload_n 3, 1) := by decide +kernel
theorem dX5_noteOf_11 : decode cX5_noteOf 11 = .ok (.bipush 30, 2) := by decide +kernel
theorem dX5_noteOf_13 : decode cX5_noteOf 13 = .ok (.if_icmp .ge 31, 3) := by decide +kernel
theorem dX5_noteOf_16 : decode cX5_noteOf 16 = .ok (.aload_n 0, 1) := by decide +kernel
theorem dX5_noteOf_17 : decode cX5_noteOf 17 = .ok (.getfield 11, 3) := by decide +kernel
theorem dX5_noteOf_20 : decode cX5_noteOf 20 = .ok (.iload_n 3, 1) := by decide +kernel
theorem dX5_noteOf_21 : decode cX5_noteOf 21 = .ok (.iaload, 1) := by decide +kernel
theorem dX5_noteOf_22 : decode cX5_noteOf 22 = .ok (.iload_n 1, 1) := by decide +kernel
theorem dX5_noteOf_23 : decode cX5_noteOf 23 = .ok (.if_icmp .ne 15, 3) := by decide +kernel
theorem dX5_noteOf_26 : decode cX5_noteOf 26 = .ok (.aload_n 0, 1) := by decide +kernel
theorem dX5_noteOf_27 : decode cX5_noteOf 27 = .ok (.getfield 15, 3) := by decide +kernel
theorem dX5_noteOf_30 : decode cX5_noteOf 30 = .ok (.iload_n 3, 1) := by decide +kernel
theorem dX5_noteOf_31 : decode cX5_noteOf 31 = .ok (.iaload, 1) := by decide +kernel
theorem dX5_noteOf_32 : decode cX5_noteOf 32 = .ok (.iload_n 2, 1) := by decide +kernel
theorem dX5_noteOf_33 : decode cX5_noteOf 33 = .ok (.if_icmp .ne 5, 3) := by decide +kernel
theorem dX5_noteOf_36 : decode cX5_noteOf 36 = .ok (.iload_n 3, 1) := by decide +kernel
theorem dX5_noteOf_37 : decode cX5_noteOf 37 = .ok (.ireturn, 1) := by decide +kernel
theorem dX5_noteOf_38 : decode cX5_noteOf 38 = .ok (.iinc 3 1, 3) := by decide +kernel
theorem dX5_noteOf_41 : decode cX5_noteOf 41 = .ok (.goto (-39), 3) := by decide +kernel
theorem dX5_noteOf_44 : decode cX5_noteOf 44 = .ok (.bipush (-6), 2) := by decide +kernel
theorem dX5_noteOf_46 : decode cX5_noteOf 46 = .ok (.ireturn, 1) := by decide +kernel
theorem dX5_cross_0 : decode cX5_cross 0 = .ok (.aload_n 0, 1) := by decide +kernel
theorem dX5_cross_1 : decode cX5_cross 1 = .ok (.iload_n 1, 1) := by decide +kernel
theorem dX5_cross_2 : decode cX5_cross 2 = .ok (.iload_n 2, 1) := by decide +kernel
theorem dX5_cross_3 : decode cX5_cross 3 = .ok (.invokevirtual 58, 3) := by decide +kernel
theorem dX5_cross_6 : decode cX5_cross 6 = .ok (.bipush (-6), 2) := by decide +kernel
theorem dX5_cross_8 : decode cX5_cross 8 = .ok (.if_icmp .eq 7, 3) := by decide +kernel
theorem dX5_cross_11 : decode cX5_cross 11 = .ok (.iconst 1, 1) := by decide +kernel
theorem dX5_cross_12 : decode cX5_cross 12 = .ok (.goto 4, 3) := by decide +kernel
theorem dX5_cross_15 : decode cX5_cross 15 = .ok (.iconst 0, 1) := by decide +kernel
theorem dX5_cross_16 : decode cX5_cross 16 = .ok (.ireturn, 1) := by decide +kernel
theorem dX5_placeOn_0 : decode cX5_placeOn 0 = .ok (.aload_n 0, 1) := by decide +kernel
theorem dX5_placeOn_1 : decode cX5_placeOn 1 = .ok (.iload_n 1, 1) := by decide +kernel
theorem dX5_placeOn_2 : decode cX5_placeOn 2 = .ok (.iload_n 2, 1) := by decide +kernel
theorem dX5_placeOn_3 : decode cX5_placeOn 3 = .ok (.invokevirtual 58, 3) := by decide +kernel
theorem dX5_placeOn_6 : decode cX5_placeOn 6 = .ok (.istore_n 3, 1) := by decide +kernel
theorem dX5_placeOn_7 : decode cX5_placeOn 7 = .ok (.iload_n 3, 1) := by decide +kernel
theorem dX5_placeOn_8 : decode cX5_placeOn 8 = .ok (.bipush (-6), 2) := by decide +kernel
theorem dX5_placeOn_10 : decode cX5_placeOn 10 = .ok (.if_icmp .ne 8, 3) := by decide +kernel
theorem dX5_placeOn_13 : decode cX5_placeOn 13 = .ok (.bipush (-6), 2) := by decide +kernel
theorem dX5_placeOn_15 : decode cX5_placeOn 15 = .ok (.goto 9, 3) := by decide +kernel
theorem dX5_placeOn_18 : decode cX5_placeOn 18 = .ok (.aload_n 0, 1) := by decide +kernel
theorem dX5_placeOn_19 : decode cX5_placeOn 19 = .ok (.getfield 18, 3) := by decide +kernel
theorem dX5_placeOn_22 : decode cX5_placeOn 22 = .ok (.iload_n 3, 1) := by decide +kernel
theorem dX5_placeOn_23 : decode cX5_placeOn 23 = .ok (.iaload, 1) := by decide +kernel
theorem dX5_placeOn_24 : decode cX5_placeOn 24 = .ok (.ireturn, 1) := by decide +kernel
theorem dX5_isSteep_0 : decode cX5_isSteep 0 = .ok (.aload_n 0, 1) := by decide +kernel
theorem dX5_isSteep_1 : decode cX5_isSteep 1 = .ok (.iload_n 1, 1) := by decide +kernel
theorem dX5_isSteep_2 : decode cX5_isSteep 2 = .ok (.iload_n 2, 1) := by decide +kernel
theorem dX5_isSteep_3 : decode cX5_isSteep 3 = .ok (.invokevirtual 58, 3) := by decide +kernel
theorem dX5_isSteep_6 : decode cX5_isSteep 6 = .ok (.istore_n 3, 1) := by decide +kernel
theorem dX5_isSteep_7 : decode cX5_isSteep 7 = .ok (.iload_n 3, 1) := by decide +kernel
theorem dX5_isSteep_8 : decode cX5_isSteep 8 = .ok (.bipush (-6), 2) := by decide +kernel
theorem dX5_isSteep_10 : decode cX5_isSteep 10 = .ok (.if_icmp .eq 16, 3) := by decide +kernel
theorem dX5_isSteep_13 : decode cX5_isSteep 13 = .ok (.aload_n 0, 1) := by decide +kernel
theorem dX5_isSteep_14 : decode cX5_isSteep 14 = .ok (.getfield 21, 3) := by decide +kernel
theorem dX5_isSteep_17 : decode cX5_isSteep 17 = .ok (.iload_n 3, 1) := by decide +kernel
theorem dX5_isSteep_18 : decode cX5_isSteep 18 = .ok (.baload, 1) := by decide +kernel
theorem dX5_isSteep_19 : decode cX5_isSteep 19 = .ok (.ifCond .eq 7, 3) := by decide +kernel
theorem dX5_isSteep_22 : decode cX5_isSteep 22 = .ok (.iconst 1, 1) := by decide +kernel
theorem dX5_isSteep_23 : decode cX5_isSteep 23 = .ok (.goto 4, 3) := by decide +kernel
theorem dX5_isSteep_26 : decode cX5_isSteep 26 = .ok (.iconst 0, 1) := by decide +kernel
theorem dX5_isSteep_27 : decode cX5_isSteep 27 = .ok (.ireturn, 1) := by decide +kernel
theorem dX5_crossersOf_0 : decode cX5_crossersOf 0 = .ok (.iconst 0, 1) := by decide +kernel
theorem dX5_crossersOf_1 : decode cX5_crossersOf 1 = .ok (.istore_n 2, 1) := by decide +kernel
theorem dX5_crossersOf_2 : decode cX5_crossersOf 2 = .ok (.iconst 0, 1) := by decide +kernel
theorem dX5_crossersOf_3 : decode cX5_crossersOf 3 = .ok (.istore_n 3, 1) := by decide +kernel
theorem dX5_crossersOf_4 : decode cX5_crossersOf 4 = .ok (.iload_n 3, 1) := by decide +kernel
theorem dX5_crossersOf_5 : decode cX5_crossersOf 5 = .ok (.aload_n 0, 1) := by decide +kernel
theorem dX5_crossersOf_6 : decode cX5_crossersOf 6 = .ok (.getfield 25, 3) := by decide +kernel
theorem dX5_crossersOf_9 : decode cX5_crossersOf 9 = .ok (.if_icmp .ge 36, 3) := by decide +kernel
theorem dX5_crossersOf_12 : decode cX5_crossersOf 12 = .ok (.iload_n 3, 1) := by decide +kernel
theorem dX5_crossersOf_13 : decode cX5_crossersOf 13 = .ok (.bipush 30, 2) := by decide +kernel
theorem dX5_crossersOf_15 : decode cX5_crossersOf 15 = .ok (.if_icmp .ge 30, 3) := by decide +kernel
theorem dX5_crossersOf_18 : decode cX5_crossersOf 18 = .ok (.aload_n 0, 1) := by decide +kernel
theorem dX5_crossersOf_19 : decode cX5_crossersOf 19 = .ok (.getfield 11, 3) := by decide +kernel
theorem dX5_crossersOf_22 : decode cX5_crossersOf 22 = .ok (.iload_n 3, 1) := by decide +kernel
theorem dX5_crossersOf_23 : decode cX5_crossersOf 23 = .ok (.iaload, 1) := by decide +kernel
theorem dX5_crossersOf_24 : decode cX5_crossersOf 24 = .ok (.iload_n 1, 1) := by decide +kernel
theorem dX5_crossersOf_25 : decode cX5_crossersOf 25 = .ok (.if_icmp .ne 14, 3) := by decide +kernel
theorem dX5_crossersOf_28 : decode cX5_crossersOf 28 = .ok (.iload_n 2, 1) := by decide +kernel
theorem dX5_crossersOf_29 : decode cX5_crossersOf 29 = .ok (.iconst 1, 1) := by decide +kernel
theorem dX5_crossersOf_30 : decode cX5_crossersOf 30 = .ok (.aload_n 0, 1) := by decide +kernel
theorem dX5_crossersOf_31 : decode cX5_crossersOf 31 = .ok (.getfield 15, 3) := by decide +kernel
theorem dX5_crossersOf_34 : decode cX5_crossersOf 34 = .ok (.iload_n 3, 1) := by decide +kernel
theorem dX5_crossersOf_35 : decode cX5_crossersOf 35 = .ok (.iaload, 1) := by decide +kernel
theorem dX5_crossersOf_36 : decode cX5_crossersOf 36 = .ok (.ishl, 1) := by decide +kernel
theorem dX5_crossersOf_37 : decode cX5_crossersOf 37 = .ok (.ior, 1) := by decide +kernel
theorem dX5_crossersOf_38 : decode cX5_crossersOf 38 = .ok (.istore_n 2, 1) := by decide +kernel
theorem dX5_crossersOf_39 : decode cX5_crossersOf 39 = .ok (.iinc 3 1, 3) := by decide +kernel
theorem dX5_crossersOf_42 : decode cX5_crossersOf 42 = .ok (.goto (-38), 3) := by decide +kernel
theorem dX5_crossersOf_45 : decode cX5_crossersOf 45 = .ok (.iload_n 2, 1) := by decide +kernel
theorem dX5_crossersOf_46 : decode cX5_crossersOf 46 = .ok (.ireturn, 1) := by decide +kernel
theorem dX6_init_0 : decode cX6_init 0 = .ok (.aload_n 0, 1) := by decide +kernel
theorem dX6_init_1 : decode cX6_init 1 = .ok (.invokespecial 1, 3) := by decide +kernel
theorem dX6_init_4 : decode cX6_init 4 = .ok (.aload_n 0, 1) := by decide +kernel
theorem dX6_init_5 : decode cX6_init 5 = .ok (.new 7, 3) := by decide +kernel
theorem dX6_init_8 : decode cX6_init 8 = .ok (.dup, 1) := by decide +kernel
theorem dX6_init_9 : decode cX6_init 9 = .ok (.invokespecial 9, 3) := by decide +kernel
theorem dX6_init_12 : decode cX6_init 12 = .ok (.putfield 10, 3) := by decide +kernel
theorem dX6_init_15 : decode cX6_init 15 = .ok (.aload_n 0, 1) := by decide +kernel
theorem dX6_init_16 : decode cX6_init 16 = .ok (.new 7, 3) := by decide +kernel
theorem dX6_init_19 : decode cX6_init 19 = .ok (.dup, 1) := by decide +kernel
theorem dX6_init_20 : decode cX6_init 20 = .ok (.invokespecial 9, 3) := by decide +kernel
theorem dX6_init_23 : decode cX6_init 23 = .ok (.putfield 16, 3) := by decide +kernel
theorem dX6_init_26 : decode cX6_init 26 = .ok (.aload_n 0, 1) := by decide +kernel
theorem dX6_init_27 : decode cX6_init 27 = .ok (.new 19, 3) := by decide +kernel
theorem dX6_init_30 : decode cX6_init 30 = .ok (.dup, 1) := by decide +kernel
theorem dX6_init_31 : decode cX6_init 31 = .ok (.invokespecial 21, 3) := by decide +kernel
theorem dX6_init_34 : decode cX6_init 34 = .ok (.putfield 22, 3) := by decide +kernel
theorem dX6_init_37 : decode cX6_init 37 = .ok (.aload_n 0, 1) := by decide +kernel
theorem dX6_init_38 : decode cX6_init 38 = .ok (.new 26, 3) := by decide +kernel
theorem dX6_init_41 : decode cX6_init 41 = .ok (.dup, 1) := by decide +kernel
theorem dX6_init_42 : decode cX6_init 42 = .ok (.invokespecial 28, 3) := by decide +kernel
theorem dX6_init_45 : decode cX6_init 45 = .ok (.putfield 29, 3) := by decide +kernel
theorem dX6_init_48 : decode cX6_init 48 = .ok (.aload_n 0, 1) := by decide +kernel
theorem dX6_init_49 : decode cX6_init 49 = .ok (.new 33, 3) := by decide +kernel
theorem dX6_init_52 : decode cX6_init 52 = .ok (.dup, 1) := by decide +kernel
theorem dX6_init_53 : decode cX6_init 53 = .ok (.invokespecial 35, 3) := by decide +kernel
theorem dX6_init_56 : decode cX6_init 56 = .ok (.putfield 36, 3) := by decide +kernel
theorem dX6_init_59 : decode cX6_init 59 = .ok (.aload_n 0, 1) := by decide +kernel
theorem dX6_init_60 : decode cX6_init 60 = .ok (.new 40, 3) := by decide +kernel
theorem dX6_init_63 : decode cX6_init 63 = .ok (.dup, 1) := by decide +kernel
theorem dX6_init_64 : decode cX6_init 64 = .ok (.invokespecial 42, 3) := by decide +kernel
theorem dX6_init_67 : decode cX6_init 67 = .ok (.putfield 43, 3) := by decide +kernel
theorem dX6_init_70 : decode cX6_init 70 = .ok (.aload_n 0, 1) := by decide +kernel
theorem dX6_init_71 : decode cX6_init 71 = .ok (.new 40, 3) := by decide +kernel
theorem dX6_init_74 : decode cX6_init 74 = .ok (.dup, 1) := by decide +kernel
theorem dX6_init_75 : decode cX6_init 75 = .ok (.invokespecial 42, 3) := by decide +kernel
theorem dX6_init_78 : decode cX6_init 78 = .ok (.putfield 47, 3) := by decide +kernel
theorem dX6_init_81 : decode cX6_init 81 = .ok (.aload_n 0, 1) := by decide +kernel
theorem dX6_init_82 : decode cX6_init 82 = .ok (.new 50, 3) := by decide +kernel
theorem dX6_init_85 : decode cX6_init 85 = .ok (.dup, 1) := by decide +kernel
theorem dX6_init_86 : decode cX6_init 86 = .ok (.invokespecial 52, 3) := by decide +kernel
theorem dX6_init_89 : decode cX6_init 89 = .ok (.putfield 53, 3) := by decide +kernel
theorem dX6_init_92 : decode cX6_init 92 = .ok (.return_, 1) := by decide +kernel
theorem dX6_launch_0 : decode cX6_launch 0 = .ok (.iload_n 1, 1) := by decide +kernel
theorem dX6_launch_1 : decode cX6_launch 1 = .ok (.iconst 0, 1) := by decide +kernel
theorem dX6_launch_2 : decode cX6_launch 2 = .ok (.bipush 63, 2) := by decide +kernel
theorem dX6_launch_4 : decode cX6_launch 4 = .ok (.invokestatic 57, 3) := by decide +kernel
theorem dX6_launch_7 : decode cX6_launch 7 = .ok (.ifCond .eq 46, 3) := by decide +kernel
theorem dX6_launch_10 : decode cX6_launch 10 = .ok (.iload_n 2, 1) := by decide +kernel
theorem dX6_launch_11 : decode cX6_launch 11 = .ok (.iconst 0, 1) := by decide +kernel
theorem dX6_launch_12 : decode cX6_launch 12 = .ok (.bipush 63, 2) := by decide +kernel
theorem dX6_launch_14 : decode cX6_launch 14 = .ok (.invokestatic 57, 3) := by decide +kernel
theorem dX6_launch_17 : decode cX6_launch 17 = .ok (.ifCond .eq 36, 3) := by decide +kernel
theorem dX6_launch_20 : decode cX6_launch 20 = .ok (.iload_n 3, 1) := by decide +kernel
theorem dX6_launch_21 : decode cX6_launch 21 = .ok (.iconst 1, 1) := by decide +kernel
theorem dX6_launch_22 : decode cX6_launch 22 = .ok (.bipush 47, 2) := by decide +kernel
theorem dX6_launch_24 : decode cX6_launch 24 = .ok (.invokestatic 57, 3) := by decide +kernel
theorem dX6_launch_27 : decode cX6_launch 27 = .ok (.ifCond .eq 26, 3) := by decide +kernel
theorem dX6_launch_30 : decode cX6_launch 30 = .ok (.iload 4, 2) := by decide +kernel
theorem dX6_launch_32 : decode cX6_launch 32 = .ok (.iconst 0, 1) := by decide +kernel
theorem dX6_launch_33 : decode cX6_launch 33 = .ok (.iconst 5, 1) := by decide +kernel
theorem dX6_launch_34 : decode cX6_launch 34 = .ok (.invokestatic 57, 3) := by decide +kernel
theorem dX6_launch_37 : decode cX6_launch 37 = .ok (.ifCond .eq 16, 3) := by decide +kernel
theorem dX6_launch_40 : decode cX6_launch 40 = .ok (.iload 5, 2) := by decide +kernel
theorem dX6_launch_42 : decode cX6_launch 42 = .ok (.bipush 10, 2) := by decide +kernel
theorem dX6_launch_44 : decode cX6_launch 44 = .ok (.sipush 200, 3) := by decide +kernel
theorem dX6_launch_47 : decode cX6_launch 47 = .ok (.invokestatic 57, 3) := by decide +kernel
theorem dX6_launch_50 : decode cX6_launch 50 = .ok (.ifCond .ne 6, 3) := by decide +kernel
theorem dX6_launch_53 : decode cX6_launch 53 = .ok (.bipush (-2), 2) := by decide +kernel
theorem dX6_launch_55 : decode cX6_launch 55 = .ok (.ireturn, 1) := by decide +kernel
theorem dX6_launch_56 : decode cX6_launch 56 = .ok (.aload_n 0, 1) := by decide +kernel
theorem dX6_launch_57 : decode cX6_launch 57 = .ok (.getfield 10, 3) := by decide +kernel
theorem dX6_launch_60 : decode cX6_launch 60 = .ok (.invokevirtual 61, 3) := by decide +kernel
theorem dX6_launch_63 : decode cX6_launch 63 = .ok (.ifCond .ne 6, 3) := by decide +kernel
theorem dX6_launch_66 : decode cX6_launch 66 = .ok (.bipush (-4), 2) := by decide +kernel
theorem dX6_launch_68 : decode cX6_launch 68 = .ok (.ireturn, 1) := by decide +kernel
theorem dX6_launch_69 : decode cX6_launch 69 = .ok (.aload_n 0, 1) := by decide +kernel
theorem dX6_launch_70 : decode cX6_launch 70 = .ok (.getfield 36, 3) := by decide +kernel
theorem dX6_launch_73 : decode cX6_launch 73 = .ok (.aload_n 0, 1) := by decide +kernel
theorem dX6_launch_74 : decode cX6_launch 74 = .ok (.getfield 10, 3) := by decide +kernel
theorem dX6_launch_77 : decode cX6_launch 77 = .ok (.invokevirtual 65, 3) := by decide +kernel
theorem dX6_launch_80 : decode cX6_launch 80 = .ok (.aload_n 0, 1) := by decide +kernel
theorem dX6_launch_81 : decode cX6_launch 81 = .ok (.getfield 10, 3) := by decide +kernel
theorem dX6_launch_84 : decode cX6_launch 84 = .ok (.iload_n 1, 1) := by decide +kernel
theorem dX6_launch_85 : decode cX6_launch 85 = .ok (.iload_n 2, 1) := by decide +kernel
theorem dX6_launch_86 : decode cX6_launch 86 = .ok (.iload_n 3, 1) := by decide +kernel
theorem dX6_launch_87 : decode cX6_launch 87 = .ok (.iload 4, 2) := by decide +kernel
theorem dX6_launch_89 : decode cX6_launch 89 = .ok (.iload 5, 2) := by decide +kernel
theorem dX6_launch_91 : decode cX6_launch 91 = .ok (.invokevirtual 69, 3) := by decide +kernel
theorem dX6_launch_94 : decode cX6_launch 94 = .ok (.ireturn, 1) := by decide +kernel
theorem dX6_order_0 : decode cX6_order 0 = .ok (.aload_n 0, 1) := by decide +kernel
theorem dX6_order_1 : decode cX6_order 1 = .ok (.iload_n 1, 1) := by decide +kernel
theorem dX6_order_2 : decode cX6_order 2 = .ok (.iload_n 2, 1) := by decide +kernel
theorem dX6_order_3 : decode cX6_order 3 = .ok (.iload_n 3, 1) := by decide +kernel
theorem dX6_order_4 : decode cX6_order 4 = .ok (.invokevirtual 73, 3) := by decide +kernel
theorem dX6_order_7 : decode cX6_order 7 = .ok (.istore 4, 2) := by decide +kernel
theorem dX6_order_9 : decode cX6_order 9 = .ok (.iload 4, 2) := by decide +kernel
theorem dX6_order_11 : decode cX6_order 11 = .ok (.ifCond .eq 6, 3) := by decide +kernel
theorem dX6_order_14 : decode cX6_order 14 = .ok (.iload 4, 2) := by decide +kernel
theorem dX6_order_16 : decode cX6_order 16 = .ok (.ireturn, 1) := by decide +kernel
theorem dX6_order_17 : decode cX6_order 17 = .ok (.aload_n 0, 1) := by decide +kernel
theorem dX6_order_18 : decode cX6_order 18 = .ok (.getfield 36, 3) := by decide +kernel
theorem dX6_order_21 : decode cX6_order 21 = .ok (.aload_n 0, 1) := by decide +kernel
theorem dX6_order_22 : decode cX6_order 22 = .ok (.getfield 10, 3) := by decide +kernel
theorem dX6_order_25 : decode cX6_order 25 = .ok (.invokevirtual 65, 3) := by decide +kernel
theorem dX6_order_28 : decode cX6_order 28 = .ok (.aload_n 0, 1) := by decide +kernel
theorem dX6_order_29 : decode cX6_order 29 = .ok (.getfield 10, 3) := by decide +kernel
theorem dX6_order_32 : decode cX6_order 32 = .ok (.iload_n 1, 1) := by decide +kernel
theorem dX6_order_33 : decode cX6_order 33 = .ok (.iload_n 2, 1) := by decide +kernel
theorem dX6_order_34 : decode cX6_order 34 = .ok (.iload_n 3, 1) := by decide +kernel
theorem dX6_order_35 : decode cX6_order 35 = .ok (.invokevirtual 77, 3) := by decide +kernel
theorem dX6_order_38 : decode cX6_order 38 = .ok (.ireturn, 1) := by decide +kernel
theorem dX6_step_0 : decode cX6_step 0 = .ok (.aload_n 0, 1) := by decide +kernel
theorem dX6_step_1 : decode cX6_step 1 = .ok (.getfield 10, 3) := by decide +kernel
theorem dX6_step_4 : decode cX6_step 4 = .ok (.iload_n 1, 1) := by decide +kernel
theorem dX6_step_5 : decode cX6_step 5 = .ok (.invokevirtual 80, 3) := by decide +kernel
theorem dX6_step_8 : decode cX6_step 8 = .ok (.ifCond .ne 5, 3) := by decide +kernel
theorem dX6_step_11 : decode cX6_step 11 = .ok (.iconst (-1), 1) := by decide +kernel
theorem dX6_step_12 : decode cX6_step 12 = .ok (.ireturn, 1) := by decide +kernel
theorem dX6_step_13 : decode cX6_step 13 = .ok (.iload_n 2, 1) := by decide +kernel
theorem dX6_step_14 : decode cX6_step 14 = .ok (.iconst 0, 1) := by decide +kernel
theorem dX6_step_15 : decode cX6_step 15 = .ok (.bipush 63, 2) := by decide +kernel
theorem dX6_step_17 : decode cX6_step 17 = .ok (.invokestatic 57, 3) := by decide +kernel
theorem dX6_step_20 : decode cX6_step 20 = .ok (.ifCond .ne 6, 3) := by decide +kernel
theorem dX6_step_23 : decode cX6_step 23 = .ok (.bipush (-2), 2) := by decide +kernel
theorem dX6_step_25 : decode cX6_step 25 = .ok (.ireturn, 1) := by decide +kernel
theorem dX6_step_26 : decode cX6_step 26 = .ok (.aload_n 0, 1) := by decide +kernel
theorem dX6_step_27 : decode cX6_step 27 = .ok (.getfield 10, 3) := by decide +kernel
theorem dX6_step_30 : decode cX6_step 30 = .ok (.iload_n 1, 1) := by decide +kernel
theorem dX6_step_31 : decode cX6_step 31 = .ok (.invokevirtual 84, 3) := by decide +kernel
theorem dX6_step_34 : decode cX6_step 34 = .ok (.ifCond .ne 6, 3) := by decide +kernel
theorem dX6_step_37 : decode cX6_step 37 = .ok (.bipush (-5), 2) := by decide +kernel
theorem dX6_step_39 : decode cX6_step 39 = .ok (.ireturn, 1) := by decide +kernel
theorem dX6_step_40 : decode cX6_step 40 = .ok (.aload_n 0, 1) := by decide +kernel
theorem dX6_step_41 : decode cX6_step 41 = .ok (.getfield 36, 3) := by decide +kernel
theorem dX6_step_44 : decode cX6_step 44 = .ok (.aload_n 0, 1) := by decide +kernel
theorem dX6_step_45 : decode cX6_step 45 = .ok (.getfield 10, 3) := by decide +kernel
theorem dX6_step_48 : decode cX6_step 48 = .ok (.invokevirtual 65, 3) := by decide +kernel
theorem dX6_step_51 : decode cX6_step 51 = .ok (.aload_n 0, 1) := by decide +kernel
theorem dX6_step_52 : decode cX6_step 52 = .ok (.getfield 10, 3) := by decide +kernel
theorem dX6_step_55 : decode cX6_step 55 = .ok (.getfield 87, 3) := by decide +kernel
theorem dX6_step_58 : decode cX6_step 58 = .ok (.iload_n 1, 1) := by decide +kernel
theorem dX6_step_59 : decode cX6_step 59 = .ok (.iaload, 1) := by decide +kernel
theorem dX6_step_60 : decode cX6_step 60 = .ok (.istore_n 3, 1) := by decide +kernel
theorem dX6_step_61 : decode cX6_step 61 = .ok (.aload_n 0, 1) := by decide +kernel
theorem dX6_step_62 : decode cX6_step 62 = .ok (.getfield 10, 3) := by decide +kernel
theorem dX6_step_65 : decode cX6_step 65 = .ok (.getfield 87, 3) := by decide +kernel
theorem dX6_step_68 : decode cX6_step 68 = .ok (.iload_n 1, 1) := by decide +kernel
theorem dX6_step_69 : decode cX6_step 69 = .ok (.iload_n 2, 1) := by decide +kernel
theorem dX6_step_70 : decode cX6_step 70 = .ok (.iastore, 1) := by decide +kernel
theorem dX6_step_71 : decode cX6_step 71 = .ok (.iload_n 3, 1) := by decide +kernel
theorem dX6_step_72 : decode cX6_step 72 = .ok (.ireturn, 1) := by decide +kernel
theorem dX6_land_0 : decode cX6_land 0 = .ok (.aload_n 0, 1) := by decide +kernel
theorem dX6_land_1 : decode cX6_land 1 = .ok (.getfield 10, 3) := by decide +kernel
theorem dX6_land_4 : decode cX6_land 4 = .ok (.iload_n 1, 1) := by decide +kernel
theorem dX6_land_5 : decode cX6_land 5 = .ok (.invokevirtual 80, 3) := by decide +kernel
theorem dX6_land_8 : decode cX6_land 8 = .ok (.ifCond .ne 5, 3) := by decide +kernel
theorem dX6_land_11 : decode cX6_land 11 = .ok (.iconst (-1), 1) := by decide +kernel
theorem dX6_land_12 : decode cX6_land 12 = .ok (.ireturn, 1) := by decide +kernel
theorem dX6_land_13 : decode cX6_land 13 = .ok (.aload_n 0, 1) := by decide +kernel
theorem dX6_land_14 : decode cX6_land 14 = .ok (.getfield 10, 3) := by decide +kernel
theorem dX6_land_17 : decode cX6_land 17 = .ok (.iload_n 1, 1) := by decide +kernel
theorem dX6_land_18 : decode cX6_land 18 = .ok (.invokevirtual 84, 3) := by decide +kernel
theorem dX6_land_21 : decode cX6_land 21 = .ok (.ifCond .ne 6, 3) := by decide +kernel
theorem dX6_land_24 : decode cX6_land 24 = .ok (.bipush (-5), 2) := by decide +kernel
theorem dX6_land_26 : decode cX6_land 26 = .ok (.ireturn, 1) := by decide +kernel
theorem dX6_land_27 : decode cX6_land 27 = .ok (.aload_n 0, 1) := by decide +kernel
theorem dX6_land_28 : decode cX6_land 28 = .ok (.getfield 36, 3) := by decide +kernel
theorem dX6_land_31 : decode cX6_land 31 = .ok (.aload_n 0, 1) := by decide +kernel
theorem dX6_land_32 : decode cX6_land 32 = .ok (.getfield 10, 3) := by decide +kernel
theorem dX6_land_35 : decode cX6_land 35 = .ok (.invokevirtual 65, 3) := by decide +kernel
theorem dX6_land_38 : decode cX6_land 38 = .ok (.aload_n 0, 1) := by decide +kernel
theorem dX6_land_39 : decode cX6_land 39 = .ok (.getfield 10, 3) := by decide +kernel
theorem dX6_land_42 : decode cX6_land 42 = .ok (.getfield 91, 3) := by decide +kernel
theorem dX6_land_45 : decode cX6_land 45 = .ok (.iload_n 1, 1) := by decide +kernel
theorem dX6_land_46 : decode cX6_land 46 = .ok (.iconst 2, 1) := by decide +kernel
theorem dX6_land_47 : decode cX6_land 47 = .ok (.iastore, 1) := by decide +kernel
theorem dX6_land_48 : decode cX6_land 48 = .ok (.aload_n 0, 1) := by decide +kernel
theorem dX6_land_49 : decode cX6_land 49 = .ok (.getfield 10, 3) := by decide +kernel
theorem dX6_land_52 : decode cX6_land 52 = .ok (.iload_n 1, 1) := by decide +kernel
theorem dX6_land_53 : decode cX6_land 53 = .ok (.aload_n 0, 1) := by decide +kernel
theorem dX6_land_54 : decode cX6_land 54 = .ok (.getfield 10, 3) := by decide +kernel
theorem dX6_land_57 : decode cX6_land 57 = .ok (.iload_n 1, 1) := by decide +kernel
theorem dX6_land_58 : decode cX6_land 58 = .ok (.invokevirtual 94, 3) := by decide +kernel
theorem dX6_land_61 : decode cX6_land 61 = .ok (.invokevirtual 98, 3) := by decide +kernel
theorem dX6_land_64 : decode cX6_land 64 = .ok (.ireturn, 1) := by decide +kernel
theorem dX6_pass_0 : decode cX6_pass 0 = .ok (.iload_n 1, 1) := by decide +kernel
theorem dX6_pass_1 : decode cX6_pass 1 = .ok (.iconst 1, 1) := by decide +kernel
theorem dX6_pass_2 : decode cX6_pass 2 = .ok (.sipush 200, 3) := by decide +kernel
theorem dX6_pass_5 : decode cX6_pass 5 = .ok (.invokestatic 57, 3) := by decide +kernel
theorem dX6_pass_8 : decode cX6_pass 8 = .ok (.ifCond .ne 6, 3) := by decide +kernel
theorem dX6_pass_11 : decode cX6_pass 11 = .ok (.bipush (-2), 2) := by decide +kernel
theorem dX6_pass_13 : decode cX6_pass 13 = .ok (.ireturn, 1) := by decide +kernel
theorem dX6_pass_14 : decode cX6_pass 14 = .ok (.aload_n 0, 1) := by decide +kernel
theorem dX6_pass_15 : decode cX6_pass 15 = .ok (.getfield 36, 3) := by decide +kernel
theorem dX6_pass_18 : decode cX6_pass 18 = .ok (.aload_n 0, 1) := by decide +kernel
theorem dX6_pass_19 : decode cX6_pass 19 = .ok (.getfield 10, 3) := by decide +kernel
theorem dX6_pass_22 : decode cX6_pass 22 = .ok (.invokevirtual 65, 3) := by decide +kernel
theorem dX6_pass_25 : decode cX6_pass 25 = .ok (.iconst 0, 1) := by decide +kernel
theorem dX6_pass_26 : decode cX6_pass 26 = .ok (.istore_n 2, 1) := by decide +kernel
theorem dX6_pass_27 : decode cX6_pass 27 = .ok (.iconst 0, 1) := by decide +kernel
theorem dX6_pass_28 : decode cX6_pass 28 = .ok (.istore_n 3, 1) := by decide +kernel
theorem dX6_pass_29 : decode cX6_pass 29 = .ok (.iload_n 3, 1) := by decide +kernel
theorem dX6_pass_30 : decode cX6_pass 30 = .ok (.iload_n 1, 1) := by decide +kernel
theorem dX6_pass_31 : decode cX6_pass 31 = .ok (.if_icmp .ge 30, 3) := by decide +kernel
theorem dX6_pass_34 : decode cX6_pass 34 = .ok (.aload_n 0, 1) := by decide +kernel
theorem dX6_pass_35 : decode cX6_pass 35 = .ok (.getfield 29, 3) := by decide +kernel
theorem dX6_pass_38 : decode cX6_pass 38 = .ok (.aload_n 0, 1) := by decide +kernel
theorem dX6_pass_39 : decode cX6_pass 39 = .ok (.getfield 10, 3) := by decide +kernel
theorem dX6_pass_42 : decode cX6_pass 42 = .ok (.invokevirtual 102, 3) := by decide +kernel
theorem dX6_pass_45 : decode cX6_pass 45 = .ok (.iload_n 2, 1) := by decide +kernel
theorem dX6_pass_46 : decode cX6_pass 46 = .ok (.aload_n 0, 1) := by decide +kernel
theorem dX6_pass_47 : decode cX6_pass 47 = .ok (.getfield 29, 3) := by decide +kernel
theorem dX6_pass_50 : decode cX6_pass 50 = .ok (.getfield 105, 3) := by decide +kernel
theorem dX6_pass_53 : decode cX6_pass 53 = .ok (.ior, 1) := by decide +kernel
theorem dX6_pass_54 : decode cX6_pass 54 = .ok (.istore_n 2, 1) := by decide +kernel
theorem dX6_pass_55 : decode cX6_pass 55 = .ok (.iinc 3 1, 3) := by decide +kernel
theorem dX6_pass_58 : decode cX6_pass 58 = .ok (.goto (-29), 3) := by decide +kernel
theorem dX6_pass_61 : decode cX6_pass 61 = .ok (.iload_n 2, 1) := by decide +kernel
theorem dX6_pass_62 : decode cX6_pass 62 = .ok (.ireturn, 1) := by decide +kernel
theorem dX6_round_0 : decode cX6_round 0 = .ok (.aload_n 0, 1) := by decide +kernel
theorem dX6_round_1 : decode cX6_round 1 = .ok (.getfield 36, 3) := by decide +kernel
theorem dX6_round_4 : decode cX6_round 4 = .ok (.aload_n 0, 1) := by decide +kernel
theorem dX6_round_5 : decode cX6_round 5 = .ok (.getfield 10, 3) := by decide +kernel
theorem dX6_round_8 : decode cX6_round 8 = .ok (.invokevirtual 65, 3) := by decide +kernel
theorem dX6_round_11 : decode cX6_round 11 = .ok (.aload_n 0, 1) := by decide +kernel
theorem dX6_round_12 : decode cX6_round 12 = .ok (.getfield 10, 3) := by decide +kernel
theorem dX6_round_15 : decode cX6_round 15 = .ok (.invokevirtual 109, 3) := by decide +kernel
theorem dX6_round_18 : decode cX6_round 18 = .ok (.aload_n 0, 1) := by decide +kernel
theorem dX6_round_19 : decode cX6_round 19 = .ok (.getfield 10, 3) := by decide +kernel
theorem dX6_round_22 : decode cX6_round 22 = .ok (.getfield 112, 3) := by decide +kernel
theorem dX6_round_25 : decode cX6_round 25 = .ok (.ireturn, 1) := by decide +kernel
theorem dX6_errorOfOrder_0 : decode cX6_errorOfOrder 0 = .ok (.aload_n 0, 1) := by decide +kernel
theorem dX6_errorOfOrder_1 : decode cX6_errorOfOrder 1 = .ok (.getfield 10, 3) := by decide +kernel
theorem dX6_errorOfOrder_4 : decode cX6_errorOfOrder 4 = .ok (.iload_n 1, 1) := by decide +kernel
theorem dX6_errorOfOrder_5 : decode cX6_errorOfOrder 5 = .ok (.invokevirtual 80, 3) := by decide +kernel
theorem dX6_errorOfOrder_8 : decode cX6_errorOfOrder 8 = .ok (.ifCond .ne 5, 3) := by decide +kernel
theorem dX6_errorOfOrder_11 : decode cX6_errorOfOrder 11 = .ok (.iconst (-1), 1) := by decide +kernel
theorem dX6_errorOfOrder_12 : decode cX6_errorOfOrder 12 = .ok (.ireturn, 1) := by decide +kernel
theorem dX6_errorOfOrder_13 : decode cX6_errorOfOrder 13 = .ok (.iload_n 2, 1) := by decide +kernel
theorem dX6_errorOfOrder_14 : decode cX6_errorOfOrder 14 = .ok (.bipush (-3), 2) := by decide +kernel
theorem dX6_errorOfOrder_16 : decode cX6_errorOfOrder 16 = .ok (.iconst 3, 1) := by decide +kernel
theorem dX6_errorOfOrder_17 : decode cX6_errorOfOrder 17 = .ok (.invokestatic 57, 3) := by decide +kernel
theorem dX6_errorOfOrder_20 : decode cX6_errorOfOrder 20 = .ok (.ifCond .eq 13, 3) := by decide +kernel
theorem dX6_errorOfOrder_23 : decode cX6_errorOfOrder 23 = .ok (.iload_n 3, 1) := by decide +kernel
theorem dX6_errorOfOrder_24 : decode cX6_errorOfOrder 24 = .ok (.bipush (-3), 2) := by decide +kernel
theorem dX6_errorOfOrder_26 : decode cX6_errorOfOrder 26 = .ok (.iconst 3, 1) := by decide +kernel
theorem dX6_errorOfOrder_27 : decode cX6_errorOfOrder 27 = .ok (.invokestatic 57, 3) := by decide +kernel
theorem dX6_errorOfOrder_30 : decode cX6_errorOfOrder 30 = .ok (.ifCond .ne 6, 3) := by decide +kernel
theorem dX6_errorOfOrder_33 : decode cX6_errorOfOrder 33 = .ok (.bipush (-2), 2) := by decide +kernel
theorem dX6_errorOfOrder_35 : decode cX6_errorOfOrder 35 = .ok (.ireturn, 1) := by decide +kernel
theorem dX6_errorOfOrder_36 : decode cX6_errorOfOrder 36 = .ok (.aload_n 0, 1) := by decide +kernel
theorem dX6_errorOfOrder_37 : decode cX6_errorOfOrder 37 = .ok (.getfield 10, 3) := by decide +kernel
theorem dX6_errorOfOrder_40 : decode cX6_errorOfOrder 40 = .ok (.iload_n 1, 1) := by decide +kernel
theorem dX6_errorOfOrder_41 : decode cX6_errorOfOrder 41 = .ok (.invokevirtual 84, 3) := by decide +kernel
theorem dX6_errorOfOrder_44 : decode cX6_errorOfOrder 44 = .ok (.ifCond .eq 7, 3) := by decide +kernel
theorem dX6_errorOfOrder_47 : decode cX6_errorOfOrder 47 = .ok (.iconst 0, 1) := by decide +kernel
theorem dX6_errorOfOrder_48 : decode cX6_errorOfOrder 48 = .ok (.goto 5, 3) := by decide +kernel
theorem dX6_errorOfOrder_51 : decode cX6_errorOfOrder 51 = .ok (.bipush (-5), 2) := by decide +kernel
theorem dX6_errorOfOrder_53 : decode cX6_errorOfOrder 53 = .ok (.ireturn, 1) := by decide +kernel
theorem dX6_kite_0 : decode cX6_kite 0 = .ok (.aload_n 0, 1) := by decide +kernel
theorem dX6_kite_1 : decode cX6_kite 1 = .ok (.getfield 10, 3) := by decide +kernel
theorem dX6_kite_4 : decode cX6_kite 4 = .ok (.iload_n 1, 1) := by decide +kernel
theorem dX6_kite_5 : decode cX6_kite 5 = .ok (.invokevirtual 80, 3) := by decide +kernel
theorem dX6_kite_8 : decode cX6_kite 8 = .ok (.ifCond .ne 5, 3) := by decide +kernel
theorem dX6_kite_11 : decode cX6_kite 11 = .ok (.iconst (-1), 1) := by decide +kernel
theorem dX6_kite_12 : decode cX6_kite 12 = .ok (.ireturn, 1) := by decide +kernel
theorem dX6_kite_13 : decode cX6_kite 13 = .ok (.iload_n 2, 1) := by decide +kernel
theorem dX6_kite_14 : decode cX6_kite 14 = .ok (.iconst 0, 1) := by decide +kernel
theorem dX6_kite_15 : decode cX6_kite 15 = .ok (.bipush 11, 2) := by decide +kernel
theorem dX6_kite_17 : decode cX6_kite 17 = .ok (.invokestatic 57, 3) := by decide +kernel
theorem dX6_kite_20 : decode cX6_kite 20 = .ok (.ifCond .ne 6, 3) := by decide +kernel
theorem dX6_kite_23 : decode cX6_kite 23 = .ok (.bipush (-2), 2) := by decide +kernel
theorem dX6_kite_25 : decode cX6_kite 25 = .ok (.ireturn, 1) := by decide +kernel
theorem dX6_kite_26 : decode cX6_kite 26 = .ok (.iload_n 2, 1) := by decide +kernel
theorem dX6_kite_27 : decode cX6_kite 27 = .ok (.bipush 9, 2) := by decide +kernel
theorem dX6_kite_29 : decode cX6_kite 29 = .ok (.if_icmp .ge 12, 3) := by decide +kernel
theorem dX6_kite_32 : decode cX6_kite 32 = .ok (.aload_n 0, 1) := by decide +kernel
theorem dX6_kite_33 : decode cX6_kite 33 = .ok (.iload_n 1, 1) := by decide +kernel
theorem dX6_kite_34 : decode cX6_kite 34 = .ok (.iload_n 2, 1) := by decide +kernel
theorem dX6_kite_35 : decode cX6_kite 35 = .ok (.invokevirtual 143, 3) := by decide +kernel
theorem dX6_kite_38 : decode cX6_kite 38 = .ok (.goto 9, 3) := by decide +kernel
theorem dX6_kite_41 : decode cX6_kite 41 = .ok (.aload_n 0, 1) := by decide +kernel
theorem dX6_kite_42 : decode cX6_kite 42 = .ok (.iload_n 1, 1) := by decide +kernel
theorem dX6_kite_43 : decode cX6_kite 43 = .ok (.iload_n 2, 1) := by decide +kernel
theorem dX6_kite_44 : decode cX6_kite 44 = .ok (.invokevirtual 146, 3) := by decide +kernel
theorem dX6_kite_47 : decode cX6_kite 47 = .ok (.ireturn, 1) := by decide +kernel
theorem dX6_aboutKite_0 : decode cX6_aboutKite 0 = .ok (.iload_n 2, 1) := by decide +kernel
theorem dX6_aboutKite_1 : decode cX6_aboutKite 1 = .ok (.tableswitch 133 0 7 #[47, 57, 67, 77, 90, 103, 113, 123], 47) := by decide +kernel
theorem dX6_aboutKite_48 : decode cX6_aboutKite 48 = .ok (.aload_n 0, 1) := by decide +kernel
theorem dX6_aboutKite_49 : decode cX6_aboutKite 49 = .ok (.getfield 10, 3) := by decide +kernel
theorem dX6_aboutKite_52 : decode cX6_aboutKite 52 = .ok (.getfield 87, 3) := by decide +kernel
theorem dX6_aboutKite_55 : decode cX6_aboutKite 55 = .ok (.iload_n 1, 1) := by decide +kernel
theorem dX6_aboutKite_56 : decode cX6_aboutKite 56 = .ok (.iaload, 1) := by decide +kernel
theorem dX6_aboutKite_57 : decode cX6_aboutKite 57 = .ok (.ireturn, 1) := by decide +kernel
theorem dX6_aboutKite_58 : decode cX6_aboutKite 58 = .ok (.aload_n 0, 1) := by decide +kernel
theorem dX6_aboutKite_59 : decode cX6_aboutKite 59 = .ok (.getfield 10, 3) := by decide +kernel
theorem dX6_aboutKite_62 : decode cX6_aboutKite 62 = .ok (.getfield 149, 3) := by decide +kernel
theorem dX6_aboutKite_65 : decode cX6_aboutKite 65 = .ok (.iload_n 1, 1) := by decide +kernel
theorem dX6_aboutKite_66 : decode cX6_aboutKite 66 = .ok (.iaload, 1) := by decide +kernel
theorem dX6_aboutKite_67 : decode cX6_aboutKite 67 = .ok (.ireturn, 1) := by decide +kernel
theorem dX6_aboutKite_68 : decode cX6_aboutKite 68 = .ok (.aload_n 0, 1) := by decide +kernel
theorem dX6_aboutKite_69 : decode cX6_aboutKite 69 = .ok (.getfield 10, 3) := by decide +kernel
theorem dX6_aboutKite_72 : decode cX6_aboutKite 72 = .ok (.getfield 152, 3) := by decide +kernel
theorem dX6_aboutKite_75 : decode cX6_aboutKite 75 = .ok (.iload_n 1, 1) := by decide +kernel
theorem dX6_aboutKite_76 : decode cX6_aboutKite 76 = .ok (.iaload, 1) := by decide +kernel
theorem dX6_aboutKite_77 : decode cX6_aboutKite 77 = .ok (.ireturn, 1) := by decide +kernel
theorem dX6_aboutKite_78 : decode cX6_aboutKite 78 = .ok (.aload_n 0, 1) := by decide +kernel
theorem dX6_aboutKite_79 : decode cX6_aboutKite 79 = .ok (.getfield 10, 3) := by decide +kernel
theorem dX6_aboutKite_82 : decode cX6_aboutKite 82 = .ok (.getfield 155, 3) := by decide +kernel
theorem dX6_aboutKite_85 : decode cX6_aboutKite 85 = .ok (.iload_n 1, 1) := by decide +kernel
theorem dX6_aboutKite_86 : decode cX6_aboutKite 86 = .ok (.iaload, 1) := by decide +kernel
theorem dX6_aboutKite_87 : decode cX6_aboutKite 87 = .ok (.bipush 10, 2) := by decide +kernel
theorem dX6_aboutKite_89 : decode cX6_aboutKite 89 = .ok (.iadd, 1) := by decide +kernel
theorem dX6_aboutKite_90 : decode cX6_aboutKite 90 = .ok (.ireturn, 1) := by decide +kernel
theorem dX6_aboutKite_91 : decode cX6_aboutKite 91 = .ok (.aload_n 0, 1) := by decide +kernel
theorem dX6_aboutKite_92 : decode cX6_aboutKite 92 = .ok (.getfield 10, 3) := by decide +kernel
theorem dX6_aboutKite_95 : decode cX6_aboutKite 95 = .ok (.getfield 158, 3) := by decide +kernel
theorem dX6_aboutKite_98 : decode cX6_aboutKite 98 = .ok (.iload_n 1, 1) := by decide +kernel
theorem dX6_aboutKite_99 : decode cX6_aboutKite 99 = .ok (.iaload, 1) := by decide +kernel
theorem dX6_aboutKite_100 : decode cX6_aboutKite 100 = .ok (.bipush 10, 2) := by decide +kernel
theorem dX6_aboutKite_102 : decode cX6_aboutKite 102 = .ok (.iadd, 1) := by decide +kernel
theorem dX6_aboutKite_103 : decode cX6_aboutKite 103 = .ok (.ireturn, 1) := by decide +kernel
theorem dX6_aboutKite_104 : decode cX6_aboutKite 104 = .ok (.aload_n 0, 1) := by decide +kernel
theorem dX6_aboutKite_105 : decode cX6_aboutKite 105 = .ok (.getfield 10, 3) := by decide +kernel
theorem dX6_aboutKite_108 : decode cX6_aboutKite 108 = .ok (.getfield 161, 3) := by decide +kernel
theorem dX6_aboutKite_111 : decode cX6_aboutKite 111 = .ok (.iload_n 1, 1) := by decide +kernel
theorem dX6_aboutKite_112 : decode cX6_aboutKite 112 = .ok (.iaload, 1) := by decide +kernel
theorem dX6_aboutKite_113 : decode cX6_aboutKite 113 = .ok (.ireturn, 1) := by decide +kernel
theorem dX6_aboutKite_114 : decode cX6_aboutKite 114 = .ok (.aload_n 0, 1) := by decide +kernel
theorem dX6_aboutKite_115 : decode cX6_aboutKite 115 = .ok (.getfield 10, 3) := by decide +kernel
theorem dX6_aboutKite_118 : decode cX6_aboutKite 118 = .ok (.getfield 164, 3) := by decide +kernel
theorem dX6_aboutKite_121 : decode cX6_aboutKite 121 = .ok (.iload_n 1, 1) := by decide +kernel
theorem dX6_aboutKite_122 : decode cX6_aboutKite 122 = .ok (.iaload, 1) := by decide +kernel
theorem dX6_aboutKite_123 : decode cX6_aboutKite 123 = .ok (.ireturn, 1) := by decide +kernel
theorem dX6_aboutKite_124 : decode cX6_aboutKite 124 = .ok (.aload_n 0, 1) := by decide +kernel
theorem dX6_aboutKite_125 : decode cX6_aboutKite 125 = .ok (.getfield 10, 3) := by decide +kernel
theorem dX6_aboutKite_128 : decode cX6_aboutKite 128 = .ok (.getfield 167, 3) := by decide +kernel
theorem dX6_aboutKite_131 : decode cX6_aboutKite 131 = .ok (.iload_n 1, 1) := by decide +kernel
theorem dX6_aboutKite_132 : decode cX6_aboutKite 132 = .ok (.iaload, 1) := by decide +kernel
theorem dX6_aboutKite_133 : decode cX6_aboutKite 133 = .ok (.ireturn, 1) := by decide +kernel
theorem dX6_aboutKite_134 : decode cX6_aboutKite 134 = .ok (.aload_n 0, 1) := by decide +kernel
theorem dX6_aboutKite_135 : decode cX6_aboutKite 135 = .ok (.getfield 10, 3) := by decide +kernel
theorem dX6_aboutKite_138 : decode cX6_aboutKite 138 = .ok (.getfield 91, 3) := by decide +kernel
theorem dX6_aboutKite_141 : decode cX6_aboutKite 141 = .ok (.iload_n 1, 1) := by decide +kernel
theorem dX6_aboutKite_142 : decode cX6_aboutKite 142 = .ok (.iaload, 1) := by decide +kernel
theorem dX6_aboutKite_143 : decode cX6_aboutKite 143 = .ok (.ireturn, 1) := by decide +kernel
theorem dX6_aboutString_0 : decode cX6_aboutString 0 = .ok (.aload_n 0, 1) := by decide +kernel
theorem dX6_aboutString_1 : decode cX6_aboutString 1 = .ok (.getfield 10, 3) := by decide +kernel
theorem dX6_aboutString_4 : decode cX6_aboutString 4 = .ok (.iload_n 1, 1) := by decide +kernel
theorem dX6_aboutString_5 : decode cX6_aboutString 5 = .ok (.invokevirtual 84, 3) := by decide +kernel
theorem dX6_aboutString_8 : decode cX6_aboutString 8 = .ok (.ifCond .ne 5, 3) := by decide +kernel
theorem dX6_aboutString_11 : decode cX6_aboutString 11 = .ok (.iconst 0, 1) := by decide +kernel
theorem dX6_aboutString_12 : decode cX6_aboutString 12 = .ok (.ireturn, 1) := by decide +kernel
theorem dX6_aboutString_13 : decode cX6_aboutString 13 = .ok (.aload_n 0, 1) := by decide +kernel
theorem dX6_aboutString_14 : decode cX6_aboutString 14 = .ok (.getfield 10, 3) := by decide +kernel
theorem dX6_aboutString_17 : decode cX6_aboutString 17 = .ok (.iload_n 1, 1) := by decide +kernel
theorem dX6_aboutString_18 : decode cX6_aboutString 18 = .ok (.invokevirtual 94, 3) := by decide +kernel
theorem dX6_aboutString_21 : decode cX6_aboutString 21 = .ok (.istore_n 3, 1) := by decide +kernel
theorem dX6_aboutString_22 : decode cX6_aboutString 22 = .ok (.iload_n 2, 1) := by decide +kernel
theorem dX6_aboutString_23 : decode cX6_aboutString 23 = .ok (.lookupswitch 37 #[(9, 25), (10, 35)], 25) := by decide +kernel
theorem dX6_aboutString_48 : decode cX6_aboutString 48 = .ok (.aload_n 0, 1) := by decide +kernel
theorem dX6_aboutString_49 : decode cX6_aboutString 49 = .ok (.getfield 10, 3) := by decide +kernel
theorem dX6_aboutString_52 : decode cX6_aboutString 52 = .ok (.iload_n 1, 1) := by decide +kernel
theorem dX6_aboutString_53 : decode cX6_aboutString 53 = .ok (.iload_n 3, 1) := by decide +kernel
theorem dX6_aboutString_54 : decode cX6_aboutString 54 = .ok (.invokevirtual 98, 3) := by decide +kernel
theorem dX6_aboutString_57 : decode cX6_aboutString 57 = .ok (.ireturn, 1) := by decide +kernel
theorem dX6_aboutString_58 : decode cX6_aboutString 58 = .ok (.iload_n 3, 1) := by decide +kernel
theorem dX6_aboutString_59 : decode cX6_aboutString 59 = .ok (.ireturn, 1) := by decide +kernel
theorem dX6_aboutString_60 : decode cX6_aboutString 60 = .ok (.aload_n 0, 1) := by decide +kernel
theorem dX6_aboutString_61 : decode cX6_aboutString 61 = .ok (.getfield 22, 3) := by decide +kernel
theorem dX6_aboutString_64 : decode cX6_aboutString 64 = .ok (.aload_n 0, 1) := by decide +kernel
theorem dX6_aboutString_65 : decode cX6_aboutString 65 = .ok (.getfield 10, 3) := by decide +kernel
theorem dX6_aboutString_68 : decode cX6_aboutString 68 = .ok (.invokevirtual 170, 3) := by decide +kernel
theorem dX6_aboutString_71 : decode cX6_aboutString 71 = .ok (.aload_n 0, 1) := by decide +kernel
theorem dX6_aboutString_72 : decode cX6_aboutString 72 = .ok (.getfield 22, 3) := by decide +kernel
theorem dX6_aboutString_75 : decode cX6_aboutString 75 = .ok (.iload_n 1, 1) := by decide +kernel
theorem dX6_aboutString_76 : decode cX6_aboutString 76 = .ok (.invokevirtual 173, 3) := by decide +kernel
theorem dX6_aboutString_79 : decode cX6_aboutString 79 = .ok (.ireturn, 1) := by decide +kernel
theorem dX6_wear_0 : decode cX6_wear 0 = .ok (.aload_n 0, 1) := by decide +kernel
theorem dX6_wear_1 : decode cX6_wear 1 = .ok (.getfield 10, 3) := by decide +kernel
theorem dX6_wear_4 : decode cX6_wear 4 = .ok (.iload_n 1, 1) := by decide +kernel
theorem dX6_wear_5 : decode cX6_wear 5 = .ok (.invokevirtual 80, 3) := by decide +kernel
theorem dX6_wear_8 : decode cX6_wear 8 = .ok (.ifCond .eq 13, 3) := by decide +kernel
theorem dX6_wear_11 : decode cX6_wear 11 = .ok (.iload_n 2, 1) := by decide +kernel
theorem dX6_wear_12 : decode cX6_wear 12 = .ok (.iconst 0, 1) := by decide +kernel
theorem dX6_wear_13 : decode cX6_wear 13 = .ok (.bipush 31, 2) := by decide +kernel
theorem dX6_wear_15 : decode cX6_wear 15 = .ok (.invokestatic 57, 3) := by decide +kernel
theorem dX6_wear_18 : decode cX6_wear 18 = .ok (.ifCond .ne 5, 3) := by decide +kernel
theorem dX6_wear_21 : decode cX6_wear 21 = .ok (.iconst (-1), 1) := by decide +kernel
theorem dX6_wear_22 : decode cX6_wear 22 = .ok (.ireturn, 1) := by decide +kernel
theorem dX6_wear_23 : decode cX6_wear 23 = .ok (.aload_n 0, 1) := by decide +kernel
theorem dX6_wear_24 : decode cX6_wear 24 = .ok (.getfield 10, 3) := by decide +kernel
theorem dX6_wear_27 : decode cX6_wear 27 = .ok (.iload_n 1, 1) := by decide +kernel
theorem dX6_wear_28 : decode cX6_wear 28 = .ok (.invokevirtual 84, 3) := by decide +kernel
theorem dX6_wear_31 : decode cX6_wear 31 = .ok (.ifCond .eq 15, 3) := by decide +kernel
theorem dX6_wear_34 : decode cX6_wear 34 = .ok (.aload_n 0, 1) := by decide +kernel
theorem dX6_wear_35 : decode cX6_wear 35 = .ok (.getfield 10, 3) := by decide +kernel
theorem dX6_wear_38 : decode cX6_wear 38 = .ok (.iload_n 1, 1) := by decide +kernel
theorem dX6_wear_39 : decode cX6_wear 39 = .ok (.iload_n 2, 1) := by decide +kernel
theorem dX6_wear_40 : decode cX6_wear 40 = .ok (.invokevirtual 98, 3) := by decide +kernel
theorem dX6_wear_43 : decode cX6_wear 43 = .ok (.goto 5, 3) := by decide +kernel
theorem dX6_wear_46 : decode cX6_wear 46 = .ok (.bipush (-5), 2) := by decide +kernel
theorem dX6_wear_48 : decode cX6_wear 48 = .ok (.ireturn, 1) := by decide +kernel
theorem dX6_crossing_0 : decode cX6_crossing 0 = .ok (.aload_n 0, 1) := by decide +kernel
theorem dX6_crossing_1 : decode cX6_crossing 1 = .ok (.getfield 10, 3) := by decide +kernel
theorem dX6_crossing_4 : decode cX6_crossing 4 = .ok (.iload_n 1, 1) := by decide +kernel
theorem dX6_crossing_5 : decode cX6_crossing 5 = .ok (.invokevirtual 80, 3) := by decide +kernel
theorem dX6_crossing_8 : decode cX6_crossing 8 = .ok (.ifCond .eq 14, 3) := by decide +kernel
theorem dX6_crossing_11 : decode cX6_crossing 11 = .ok (.aload_n 0, 1) := by decide +kernel
theorem dX6_crossing_12 : decode cX6_crossing 12 = .ok (.getfield 10, 3) := by decide +kernel
theorem dX6_crossing_15 : decode cX6_crossing 15 = .ok (.iload_n 2, 1) := by decide +kernel
theorem dX6_crossing_16 : decode cX6_crossing 16 = .ok (.invokevirtual 80, 3) := by decide +kernel
theorem dX6_crossing_19 : decode cX6_crossing 19 = .ok (.ifCond .ne 5, 3) := by decide +kernel
theorem dX6_crossing_22 : decode cX6_crossing 22 = .ok (.iconst (-1), 1) := by decide +kernel
theorem dX6_crossing_23 : decode cX6_crossing 23 = .ok (.ireturn, 1) := by decide +kernel
theorem dX6_crossing_24 : decode cX6_crossing 24 = .ok (.iload_n 1, 1) := by decide +kernel
theorem dX6_crossing_25 : decode cX6_crossing 25 = .ok (.iload_n 2, 1) := by decide +kernel
theorem dX6_crossing_26 : decode cX6_crossing 26 = .ok (.if_icmp .eq 12, 3) := by decide +kernel
theorem dX6_crossing_29 : decode cX6_crossing 29 = .ok (.iload_n 3, 1) := by decide +kernel
theorem dX6_crossing_30 : decode cX6_crossing 30 = .ok (.iconst 0, 1) := by decide +kernel
theorem dX6_crossing_31 : decode cX6_crossing 31 = .ok (.iconst 5, 1) := by decide +kernel
theorem dX6_crossing_32 : decode cX6_crossing 32 = .ok (.invokestatic 57, 3) := by decide +kernel
theorem dX6_crossing_35 : decode cX6_crossing 35 = .ok (.ifCond .ne 6, 3) := by decide +kernel
theorem dX6_crossing_38 : decode cX6_crossing 38 = .ok (.bipush (-2), 2) := by decide +kernel
theorem dX6_crossing_40 : decode cX6_crossing 40 = .ok (.ireturn, 1) := by decide +kernel
theorem dX6_crossing_41 : decode cX6_crossing 41 = .ok (.aload_n 0, 1) := by decide +kernel
theorem dX6_crossing_42 : decode cX6_crossing 42 = .ok (.getfield 10, 3) := by decide +kernel
theorem dX6_crossing_45 : decode cX6_crossing 45 = .ok (.iload_n 1, 1) := by decide +kernel
theorem dX6_crossing_46 : decode cX6_crossing 46 = .ok (.invokevirtual 84, 3) := by decide +kernel
theorem dX6_crossing_49 : decode cX6_crossing 49 = .ok (.ifCond .eq 14, 3) := by decide +kernel
theorem dX6_crossing_52 : decode cX6_crossing 52 = .ok (.aload_n 0, 1) := by decide +kernel
theorem dX6_crossing_53 : decode cX6_crossing 53 = .ok (.getfield 10, 3) := by decide +kernel
theorem dX6_crossing_56 : decode cX6_crossing 56 = .ok (.iload_n 2, 1) := by decide +kernel
theorem dX6_crossing_57 : decode cX6_crossing 57 = .ok (.invokevirtual 84, 3) := by decide +kernel
theorem dX6_crossing_60 : decode cX6_crossing 60 = .ok (.ifCond .ne 6, 3) := by decide +kernel
theorem dX6_crossing_63 : decode cX6_crossing 63 = .ok (.bipush (-5), 2) := by decide +kernel
theorem dX6_crossing_65 : decode cX6_crossing 65 = .ok (.ireturn, 1) := by decide +kernel
theorem dX6_crossing_66 : decode cX6_crossing 66 = .ok (.aload_n 0, 1) := by decide +kernel
theorem dX6_crossing_67 : decode cX6_crossing 67 = .ok (.getfield 22, 3) := by decide +kernel
theorem dX6_crossing_70 : decode cX6_crossing 70 = .ok (.aload_n 0, 1) := by decide +kernel
theorem dX6_crossing_71 : decode cX6_crossing 71 = .ok (.getfield 10, 3) := by decide +kernel
theorem dX6_crossing_74 : decode cX6_crossing 74 = .ok (.invokevirtual 170, 3) := by decide +kernel
theorem dX6_crossing_77 : decode cX6_crossing 77 = .ok (.aload_n 0, 1) := by decide +kernel
theorem dX6_crossing_78 : decode cX6_crossing 78 = .ok (.iload_n 1, 1) := by decide +kernel
theorem dX6_crossing_79 : decode cX6_crossing 79 = .ok (.iload_n 2, 1) := by decide +kernel
theorem dX6_crossing_80 : decode cX6_crossing 80 = .ok (.iload_n 3, 1) := by decide +kernel
theorem dX6_crossing_81 : decode cX6_crossing 81 = .ok (.invokevirtual 176, 3) := by decide +kernel
theorem dX6_crossing_84 : decode cX6_crossing 84 = .ok (.ireturn, 1) := by decide +kernel
theorem dX6_aboutCrossing_0 : decode cX6_aboutCrossing 0 = .ok (.aload_n 0, 1) := by decide +kernel
theorem dX6_aboutCrossing_1 : decode cX6_aboutCrossing 1 = .ok (.getfield 22, 3) := by decide +kernel
theorem dX6_aboutCrossing_4 : decode cX6_aboutCrossing 4 = .ok (.iload_n 1, 1) := by decide +kernel
theorem dX6_aboutCrossing_5 : decode cX6_aboutCrossing 5 = .ok (.iload_n 2, 1) := by decide +kernel
theorem dX6_aboutCrossing_6 : decode cX6_aboutCrossing 6 = .ok (.invokevirtual 179, 3) := by decide +kernel
theorem dX6_aboutCrossing_9 : decode cX6_aboutCrossing 9 = .ok (.istore 4, 2) := by decide +kernel
theorem dX6_aboutCrossing_11 : decode cX6_aboutCrossing 11 = .ok (.iload_n 3, 1) := by decide +kernel
theorem dX6_aboutCrossing_12 : decode cX6_aboutCrossing 12 = .ok (.tableswitch 105 0 4 #[36, 47, 57, 67, 95], 36) := by decide +kernel
theorem dX6_aboutCrossing_48 : decode cX6_aboutCrossing 48 = .ok (.iload 4, 2) := by decide +kernel
theorem dX6_aboutCrossing_50 : decode cX6_aboutCrossing 50 = .ok (.ifCond .eq 7, 3) := by decide +kernel
theorem dX6_aboutCrossing_53 : decode cX6_aboutCrossing 53 = .ok (.iconst 1, 1) := by decide +kernel
theorem dX6_aboutCrossing_54 : decode cX6_aboutCrossing 54 = .ok (.goto 4, 3) := by decide +kernel
theorem dX6_aboutCrossing_57 : decode cX6_aboutCrossing 57 = .ok (.iconst 0, 1) := by decide +kernel
theorem dX6_aboutCrossing_58 : decode cX6_aboutCrossing 58 = .ok (.ireturn, 1) := by decide +kernel
theorem dX6_aboutCrossing_59 : decode cX6_aboutCrossing 59 = .ok (.aload_n 0, 1) := by decide +kernel
theorem dX6_aboutCrossing_60 : decode cX6_aboutCrossing 60 = .ok (.getfield 22, 3) := by decide +kernel
theorem dX6_aboutCrossing_63 : decode cX6_aboutCrossing 63 = .ok (.iload_n 1, 1) := by decide +kernel
theorem dX6_aboutCrossing_64 : decode cX6_aboutCrossing 64 = .ok (.iload_n 2, 1) := by decide +kernel
theorem dX6_aboutCrossing_65 : decode cX6_aboutCrossing 65 = .ok (.invokevirtual 183, 3) := by decide +kernel
theorem dX6_aboutCrossing_68 : decode cX6_aboutCrossing 68 = .ok (.ireturn, 1) := by decide +kernel
theorem dX6_aboutCrossing_69 : decode cX6_aboutCrossing 69 = .ok (.aload_n 0, 1) := by decide +kernel
theorem dX6_aboutCrossing_70 : decode cX6_aboutCrossing 70 = .ok (.getfield 22, 3) := by decide +kernel
theorem dX6_aboutCrossing_73 : decode cX6_aboutCrossing 73 = .ok (.iload_n 2, 1) := by decide +kernel
theorem dX6_aboutCrossing_74 : decode cX6_aboutCrossing 74 = .ok (.iload_n 1, 1) := by decide +kernel
theorem dX6_aboutCrossing_75 : decode cX6_aboutCrossing 75 = .ok (.invokevirtual 183, 3) := by decide +kernel
theorem dX6_aboutCrossing_78 : decode cX6_aboutCrossing 78 = .ok (.ireturn, 1) := by decide +kernel
theorem dX6_aboutCrossing_79 : decode cX6_aboutCrossing 79 = .ok (.iload 4, 2) := by decide +kernel
theorem dX6_aboutCrossing_81 : decode cX6_aboutCrossing 81 = .ok (.ifCond .ne 8, 3) := by decide +kernel
theorem dX6_aboutCrossing_84 : decode cX6_aboutCrossing 84 = .ok (.bipush (-6), 2) := by decide +kernel
theorem dX6_aboutCrossing_86 : decode cX6_aboutCrossing 86 = .ok (.goto 20, 3) := by decide +kernel
theorem dX6_aboutCrossing_89 : decode cX6_aboutCrossing 89 = .ok (.aload_n 0, 1) := by decide +kernel
theorem dX6_aboutCrossing_90 : decode cX6_aboutCrossing 90 = .ok (.getfield 22, 3) := by decide +kernel
theorem dX6_aboutCrossing_93 : decode cX6_aboutCrossing 93 = .ok (.iload_n 1, 1) := by decide +kernel
theorem dX6_aboutCrossing_94 : decode cX6_aboutCrossing 94 = .ok (.iload_n 2, 1) := by decide +kernel
theorem dX6_aboutCrossing_95 : decode cX6_aboutCrossing 95 = .ok (.invokevirtual 186, 3) := by decide +kernel
theorem dX6_aboutCrossing_98 : decode cX6_aboutCrossing 98 = .ok (.ifCond .eq 7, 3) := by decide +kernel
theorem dX6_aboutCrossing_101 : decode cX6_aboutCrossing 101 = .ok (.iconst 1, 1) := by decide +kernel
theorem dX6_aboutCrossing_102 : decode cX6_aboutCrossing 102 = .ok (.goto 4, 3) := by decide +kernel
theorem dX6_aboutCrossing_105 : decode cX6_aboutCrossing 105 = .ok (.iconst 0, 1) := by decide +kernel
theorem dX6_aboutCrossing_106 : decode cX6_aboutCrossing 106 = .ok (.ireturn, 1) := by decide +kernel
theorem dX6_aboutCrossing_107 : decode cX6_aboutCrossing 107 = .ok (.aload_n 0, 1) := by decide +kernel
theorem dX6_aboutCrossing_108 : decode cX6_aboutCrossing 108 = .ok (.getfield 10, 3) := by decide +kernel
theorem dX6_aboutCrossing_111 : decode cX6_aboutCrossing 111 = .ok (.iload_n 1, 1) := by decide +kernel
theorem dX6_aboutCrossing_112 : decode cX6_aboutCrossing 112 = .ok (.iload_n 2, 1) := by decide +kernel
theorem dX6_aboutCrossing_113 : decode cX6_aboutCrossing 113 = .ok (.invokevirtual 189, 3) := by decide +kernel
theorem dX6_aboutCrossing_116 : decode cX6_aboutCrossing 116 = .ok (.ireturn, 1) := by decide +kernel
theorem dX6_aboutCrossing_117 : decode cX6_aboutCrossing 117 = .ok (.iload 4, 2) := by decide +kernel
theorem dX6_aboutCrossing_119 : decode cX6_aboutCrossing 119 = .ok (.ifCond .eq 24, 3) := by decide +kernel
theorem dX6_aboutCrossing_122 : decode cX6_aboutCrossing 122 = .ok (.aload_n 0, 1) := by decide +kernel
theorem dX6_aboutCrossing_123 : decode cX6_aboutCrossing 123 = .ok (.getfield 10, 3) := by decide +kernel
theorem dX6_aboutCrossing_126 : decode cX6_aboutCrossing 126 = .ok (.iload_n 1, 1) := by decide +kernel
theorem dX6_aboutCrossing_127 : decode cX6_aboutCrossing 127 = .ok (.iload_n 2, 1) := by decide +kernel
theorem dX6_aboutCrossing_128 : decode cX6_aboutCrossing 128 = .ok (.aload_n 0, 1) := by decide +kernel
theorem dX6_aboutCrossing_129 : decode cX6_aboutCrossing 129 = .ok (.getfield 22, 3) := by decide +kernel
theorem dX6_aboutCrossing_132 : decode cX6_aboutCrossing 132 = .ok (.iload_n 1, 1) := by decide +kernel
theorem dX6_aboutCrossing_133 : decode cX6_aboutCrossing 133 = .ok (.iload_n 2, 1) := by decide +kernel
theorem dX6_aboutCrossing_134 : decode cX6_aboutCrossing 134 = .ok (.invokevirtual 186, 3) := by decide +kernel
theorem dX6_aboutCrossing_137 : decode cX6_aboutCrossing 137 = .ok (.invokevirtual 192, 3) := by decide +kernel
theorem dX6_aboutCrossing_140 : decode cX6_aboutCrossing 140 = .ok (.goto 4, 3) := by decide +kernel
theorem dX6_aboutCrossing_143 : decode cX6_aboutCrossing 143 = .ok (.iconst 0, 1) := by decide +kernel
theorem dX6_aboutCrossing_144 : decode cX6_aboutCrossing 144 = .ok (.ireturn, 1) := by decide +kernel
theorem dX6_count_0 : decode cX6_count 0 = .ok (.iload_n 1, 1) := by decide +kernel
theorem dX6_count_1 : decode cX6_count 1 = .ok (.tableswitch 146 0 9 #[55, 63, 71, 90, 98, 106, 114, 122, 130, 138], 55) := by decide +kernel
theorem dX6_count_56 : decode cX6_count 56 = .ok (.aload_n 0, 1) := by decide +kernel
theorem dX6_count_57 : decode cX6_count 57 = .ok (.getfield 10, 3) := by decide +kernel
theorem dX6_count_60 : decode cX6_count 60 = .ok (.getfield 196, 3) := by decide +kernel
theorem dX6_count_63 : decode cX6_count 63 = .ok (.ireturn, 1) := by decide +kernel
theorem dX6_count_64 : decode cX6_count 64 = .ok (.aload_n 0, 1) := by decide +kernel
theorem dX6_count_65 : decode cX6_count 65 = .ok (.getfield 10, 3) := by decide +kernel
theorem dX6_count_68 : decode cX6_count 68 = .ok (.invokevirtual 199, 3) := by decide +kernel
theorem dX6_count_71 : decode cX6_count 71 = .ok (.ireturn, 1) := by decide +kernel
theorem dX6_count_72 : decode cX6_count 72 = .ok (.aload_n 0, 1) := by decide +kernel
theorem dX6_count_73 : decode cX6_count 73 = .ok (.getfield 22, 3) := by decide +kernel
theorem dX6_count_76 : decode cX6_count 76 = .ok (.aload_n 0, 1) := by decide +kernel
theorem dX6_count_77 : decode cX6_count 77 = .ok (.getfield 10, 3) := by decide +kernel
theorem dX6_count_80 : decode cX6_count 80 = .ok (.invokevirtual 170, 3) := by decide +kernel
theorem dX6_count_83 : decode cX6_count 83 = .ok (.aload_n 0, 1) := by decide +kernel
theorem dX6_count_84 : decode cX6_count 84 = .ok (.getfield 22, 3) := by decide +kernel
theorem dX6_count_87 : decode cX6_count 87 = .ok (.invokevirtual 202, 3) := by decide +kernel
theorem dX6_count_90 : decode cX6_count 90 = .ok (.ireturn, 1) := by decide +kernel
theorem dX6_count_91 : decode cX6_count 91 = .ok (.aload_n 0, 1) := by decide +kernel
theorem dX6_count_92 : decode cX6_count 92 = .ok (.getfield 10, 3) := by decide +kernel
theorem dX6_count_95 : decode cX6_count 95 = .ok (.getfield 205, 3) := by decide +kernel
theorem dX6_count_98 : decode cX6_count 98 = .ok (.ireturn, 1) := by decide +kernel
theorem dX6_count_99 : decode cX6_count 99 = .ok (.aload_n 0, 1) := by decide +kernel
theorem dX6_count_100 : decode cX6_count 100 = .ok (.getfield 10, 3) := by decide +kernel
theorem dX6_count_103 : decode cX6_count 103 = .ok (.getfield 112, 3) := by decide +kernel
theorem dX6_count_106 : decode cX6_count 106 = .ok (.ireturn, 1) := by decide +kernel
theorem dX6_count_107 : decode cX6_count 107 = .ok (.aload_n 0, 1) := by decide +kernel
theorem dX6_count_108 : decode cX6_count 108 = .ok (.getfield 10, 3) := by decide +kernel
theorem dX6_count_111 : decode cX6_count 111 = .ok (.invokevirtual 208, 3) := by decide +kernel
theorem dX6_count_114 : decode cX6_count 114 = .ok (.ireturn, 1) := by decide +kernel
theorem dX6_count_115 : decode cX6_count 115 = .ok (.aload_n 0, 1) := by decide +kernel
theorem dX6_count_116 : decode cX6_count 116 = .ok (.getfield 10, 3) := by decide +kernel
theorem dX6_count_119 : decode cX6_count 119 = .ok (.invokevirtual 211, 3) := by decide +kernel
theorem dX6_count_122 : decode cX6_count 122 = .ok (.ireturn, 1) := by decide +kernel
theorem dX6_count_123 : decode cX6_count 123 = .ok (.aload_n 0, 1) := by decide +kernel
theorem dX6_count_124 : decode cX6_count 124 = .ok (.getfield 10, 3) := by decide +kernel
theorem dX6_count_127 : decode cX6_count 127 = .ok (.getfield 214, 3) := by decide +kernel
theorem dX6_count_130 : decode cX6_count 130 = .ok (.ireturn, 1) := by decide +kernel
theorem dX6_count_131 : decode cX6_count 131 = .ok (.aload_n 0, 1) := by decide +kernel
theorem dX6_count_132 : decode cX6_count 132 = .ok (.getfield 53, 3) := by decide +kernel
theorem dX6_count_135 : decode cX6_count 135 = .ok (.getfield 125, 3) := by decide +kernel
theorem dX6_count_138 : decode cX6_count 138 = .ok (.ireturn, 1) := by decide +kernel
theorem dX6_count_139 : decode cX6_count 139 = .ok (.aload_n 0, 1) := by decide +kernel
theorem dX6_count_140 : decode cX6_count 140 = .ok (.getfield 36, 3) := by decide +kernel
theorem dX6_count_143 : decode cX6_count 143 = .ok (.getfield 217, 3) := by decide +kernel
theorem dX6_count_146 : decode cX6_count 146 = .ok (.ireturn, 1) := by decide +kernel
theorem dX6_count_147 : decode cX6_count 147 = .ok (.bipush (-2), 2) := by decide +kernel
theorem dX6_count_149 : decode cX6_count 149 = .ok (.ireturn, 1) := by decide +kernel
theorem dX6_ifPassed_0 : decode cX6_ifPassed 0 = .ok (.iload_n 1, 1) := by decide +kernel
theorem dX6_ifPassed_1 : decode cX6_ifPassed 1 = .ok (.iconst 1, 1) := by decide +kernel
theorem dX6_ifPassed_2 : decode cX6_ifPassed 2 = .ok (.sipush 200, 3) := by decide +kernel
theorem dX6_ifPassed_5 : decode cX6_ifPassed 5 = .ok (.invokestatic 57, 3) := by decide +kernel
theorem dX6_ifPassed_8 : decode cX6_ifPassed 8 = .ok (.ifCond .eq 12, 3) := by decide +kernel
theorem dX6_ifPassed_11 : decode cX6_ifPassed 11 = .ok (.iload_n 2, 1) := by decide +kernel
theorem dX6_ifPassed_12 : decode cX6_ifPassed 12 = .ok (.iconst 0, 1) := by decide +kernel
theorem dX6_ifPassed_13 : decode cX6_ifPassed 13 = .ok (.iconst 2, 1) := by decide +kernel
theorem dX6_ifPassed_14 : decode cX6_ifPassed 14 = .ok (.invokestatic 57, 3) := by decide +kernel
theorem dX6_ifPassed_17 : decode cX6_ifPassed 17 = .ok (.ifCond .ne 6, 3) := by decide +kernel
theorem dX6_ifPassed_20 : decode cX6_ifPassed 20 = .ok (.bipush (-2), 2) := by decide +kernel
theorem dX6_ifPassed_22 : decode cX6_ifPassed 22 = .ok (.ireturn, 1) := by decide +kernel
theorem dX6_ifPassed_23 : decode cX6_ifPassed 23 = .ok (.aload_n 0, 1) := by decide +kernel
theorem dX6_ifPassed_24 : decode cX6_ifPassed 24 = .ok (.getfield 16, 3) := by decide +kernel
theorem dX6_ifPassed_27 : decode cX6_ifPassed 27 = .ok (.aload_n 0, 1) := by decide +kernel
theorem dX6_ifPassed_28 : decode cX6_ifPassed 28 = .ok (.getfield 10, 3) := by decide +kernel
theorem dX6_ifPassed_31 : decode cX6_ifPassed 31 = .ok (.invokevirtual 220, 3) := by decide +kernel
theorem dX6_ifPassed_34 : decode cX6_ifPassed 34 = .ok (.iconst 0, 1) := by decide +kernel
theorem dX6_ifPassed_35 : decode cX6_ifPassed 35 = .ok (.istore_n 3, 1) := by decide +kernel
theorem dX6_ifPassed_36 : decode cX6_ifPassed 36 = .ok (.iconst 0, 1) := by decide +kernel
theorem dX6_ifPassed_37 : decode cX6_ifPassed 37 = .ok (.istore 4, 2) := by decide +kernel
theorem dX6_ifPassed_39 : decode cX6_ifPassed 39 = .ok (.iload 4, 2) := by decide +kernel
theorem dX6_ifPassed_41 : decode cX6_ifPassed 41 = .ok (.iload_n 1, 1) := by decide +kernel
theorem dX6_ifPassed_42 : decode cX6_ifPassed 42 = .ok (.if_icmp .ge 30, 3) := by decide +kernel
theorem dX6_ifPassed_45 : decode cX6_ifPassed 45 = .ok (.aload_n 0, 1) := by decide +kernel
theorem dX6_ifPassed_46 : decode cX6_ifPassed 46 = .ok (.getfield 29, 3) := by decide +kernel
theorem dX6_ifPassed_49 : decode cX6_ifPassed 49 = .ok (.aload_n 0, 1) := by decide +kernel
theorem dX6_ifPassed_50 : decode cX6_ifPassed 50 = .ok (.getfield 16, 3) := by decide +kernel
theorem dX6_ifPassed_53 : decode cX6_ifPassed 53 = .ok (.invokevirtual 102, 3) := by decide +kernel
theorem dX6_ifPassed_56 : decode cX6_ifPassed 56 = .ok (.iload_n 3, 1) := by decide +kernel
theorem dX6_ifPassed_57 : decode cX6_ifPassed 57 = .ok (.aload_n 0, 1) := by decide +kernel
theorem dX6_ifPassed_58 : decode cX6_ifPassed 58 = .ok (.getfield 29, 3) := by decide +kernel
theorem dX6_ifPassed_61 : decode cX6_ifPassed 61 = .ok (.getfield 105, 3) := by decide +kernel
theorem dX6_ifPassed_64 : decode cX6_ifPassed 64 = .ok (.ior, 1) := by decide +kernel
theorem dX6_ifPassed_65 : decode cX6_ifPassed 65 = .ok (.istore_n 3, 1) := by decide +kernel
theorem dX6_ifPassed_66 : decode cX6_ifPassed 66 = .ok (.iinc 4 1, 3) := by decide +kernel
theorem dX6_ifPassed_69 : decode cX6_ifPassed 69 = .ok (.goto (-30), 3) := by decide +kernel
theorem dX6_ifPassed_72 : decode cX6_ifPassed 72 = .ok (.iload_n 2, 1) := by decide +kernel
theorem dX6_ifPassed_73 : decode cX6_ifPassed 73 = .ok (.lookupswitch 45 #[(0, 27), (1, 29)], 27) := by decide +kernel
theorem dX6_ifPassed_100 : decode cX6_ifPassed 100 = .ok (.iload_n 3, 1) := by decide +kernel
theorem dX6_ifPassed_101 : decode cX6_ifPassed 101 = .ok (.ireturn, 1) := by decide +kernel
theorem dX6_ifPassed_102 : decode cX6_ifPassed 102 = .ok (.aload_n 0, 1) := by decide +kernel
theorem dX6_ifPassed_103 : decode cX6_ifPassed 103 = .ok (.getfield 16, 3) := by decide +kernel
theorem dX6_ifPassed_106 : decode cX6_ifPassed 106 = .ok (.invokevirtual 211, 3) := by decide +kernel
theorem dX6_ifPassed_109 : decode cX6_ifPassed 109 = .ok (.aload_n 0, 1) := by decide +kernel
theorem dX6_ifPassed_110 : decode cX6_ifPassed 110 = .ok (.getfield 10, 3) := by decide +kernel
theorem dX6_ifPassed_113 : decode cX6_ifPassed 113 = .ok (.invokevirtual 211, 3) := by decide +kernel
theorem dX6_ifPassed_116 : decode cX6_ifPassed 116 = .ok (.isub, 1) := by decide +kernel
theorem dX6_ifPassed_117 : decode cX6_ifPassed 117 = .ok (.ireturn, 1) := by decide +kernel
theorem dX6_ifPassed_118 : decode cX6_ifPassed 118 = .ok (.aload_n 0, 1) := by decide +kernel
theorem dX6_ifPassed_119 : decode cX6_ifPassed 119 = .ok (.getfield 22, 3) := by decide +kernel
theorem dX6_ifPassed_122 : decode cX6_ifPassed 122 = .ok (.aload_n 0, 1) := by decide +kernel
theorem dX6_ifPassed_123 : decode cX6_ifPassed 123 = .ok (.getfield 16, 3) := by decide +kernel
theorem dX6_ifPassed_126 : decode cX6_ifPassed 126 = .ok (.invokevirtual 170, 3) := by decide +kernel
theorem dX6_ifPassed_129 : decode cX6_ifPassed 129 = .ok (.aload_n 0, 1) := by decide +kernel
theorem dX6_ifPassed_130 : decode cX6_ifPassed 130 = .ok (.getfield 22, 3) := by decide +kernel
theorem dX6_ifPassed_133 : decode cX6_ifPassed 133 = .ok (.invokevirtual 202, 3) := by decide +kernel
theorem dX6_ifPassed_136 : decode cX6_ifPassed 136 = .ok (.ireturn, 1) := by decide +kernel
theorem dX6_firstCut_0 : decode cX6_firstCut 0 = .ok (.iload_n 1, 1) := by decide +kernel
theorem dX6_firstCut_1 : decode cX6_firstCut 1 = .ok (.iconst 0, 1) := by decide +kernel
theorem dX6_firstCut_2 : decode cX6_firstCut 2 = .ok (.iconst 2, 1) := by decide +kernel
theorem dX6_firstCut_3 : decode cX6_firstCut 3 = .ok (.invokestatic 57, 3) := by decide +kernel
theorem dX6_firstCut_6 : decode cX6_firstCut 6 = .ok (.ifCond .ne 6, 3) := by decide +kernel
theorem dX6_firstCut_9 : decode cX6_firstCut 9 = .ok (.bipush (-2), 2) := by decide +kernel
theorem dX6_firstCut_11 : decode cX6_firstCut 11 = .ok (.ireturn, 1) := by decide +kernel
theorem dX6_firstCut_12 : decode cX6_firstCut 12 = .ok (.aload_n 0, 1) := by decide +kernel
theorem dX6_firstCut_13 : decode cX6_firstCut 13 = .ok (.getfield 16, 3) := by decide +kernel
theorem dX6_firstCut_16 : decode cX6_firstCut 16 = .ok (.aload_n 0, 1) := by decide +kernel
theorem dX6_firstCut_17 : decode cX6_firstCut 17 = .ok (.getfield 10, 3) := by decide +kernel
theorem dX6_firstCut_20 : decode cX6_firstCut 20 = .ok (.invokevirtual 220, 3) := by decide +kernel
theorem dX6_firstCut_23 : decode cX6_firstCut 23 = .ok (.iconst 1, 1) := by decide +kernel
theorem dX6_firstCut_24 : decode cX6_firstCut 24 = .ok (.istore_n 2, 1) := by decide +kernel
theorem dX6_firstCut_25 : decode cX6_firstCut 25 = .ok (.iload_n 2, 1) := by decide +kernel
theorem dX6_firstCut_26 : decode cX6_firstCut 26 = .ok (.sipush 300, 3) := by decide +kernel
theorem dX6_firstCut_29 : decode cX6_firstCut 29 = .ok (.if_icmp .gt 37, 3) := by decide +kernel
theorem dX6_firstCut_32 : decode cX6_firstCut 32 = .ok (.aload_n 0, 1) := by decide +kernel
theorem dX6_firstCut_33 : decode cX6_firstCut 33 = .ok (.getfield 29, 3) := by decide +kernel
theorem dX6_firstCut_36 : decode cX6_firstCut 36 = .ok (.aload_n 0, 1) := by decide +kernel
theorem dX6_firstCut_37 : decode cX6_firstCut 37 = .ok (.getfield 16, 3) := by decide +kernel
theorem dX6_firstCut_40 : decode cX6_firstCut 40 = .ok (.invokevirtual 102, 3) := by decide +kernel
theorem dX6_firstCut_43 : decode cX6_firstCut 43 = .ok (.aload_n 0, 1) := by decide +kernel
theorem dX6_firstCut_44 : decode cX6_firstCut 44 = .ok (.getfield 29, 3) := by decide +kernel
theorem dX6_firstCut_47 : decode cX6_firstCut 47 = .ok (.getfield 105, 3) := by decide +kernel
theorem dX6_firstCut_50 : decode cX6_firstCut 50 = .ok (.ifCond .eq 10, 3) := by decide +kernel
theorem dX6_firstCut_53 : decode cX6_firstCut 53 = .ok (.aload_n 0, 1) := by decide +kernel
theorem dX6_firstCut_54 : decode cX6_firstCut 54 = .ok (.iload_n 2, 1) := by decide +kernel
theorem dX6_firstCut_55 : decode cX6_firstCut 55 = .ok (.iload_n 1, 1) := by decide +kernel
theorem dX6_firstCut_56 : decode cX6_firstCut 56 = .ok (.invokevirtual 223, 3) := by decide +kernel
theorem dX6_firstCut_59 : decode cX6_firstCut 59 = .ok (.ireturn, 1) := by decide +kernel
theorem dX6_firstCut_60 : decode cX6_firstCut 60 = .ok (.iinc 2 1, 3) := by decide +kernel
theorem dX6_firstCut_63 : decode cX6_firstCut 63 = .ok (.goto (-38), 3) := by decide +kernel
theorem dX6_firstCut_66 : decode cX6_firstCut 66 = .ok (.bipush (-6), 2) := by decide +kernel
theorem dX6_firstCut_68 : decode cX6_firstCut 68 = .ok (.ireturn, 1) := by decide +kernel
theorem dX6_aboutCut_0 : decode cX6_aboutCut 0 = .ok (.iload_n 2, 1) := by decide +kernel
theorem dX6_aboutCut_1 : decode cX6_aboutCut 1 = .ok (.lookupswitch 40 #[(0, 27), (1, 29)], 27) := by decide +kernel
theorem dX6_aboutCut_28 : decode cX6_aboutCut 28 = .ok (.iload_n 1, 1) := by decide +kernel
theorem dX6_aboutCut_29 : decode cX6_aboutCut 29 = .ok (.ireturn, 1) := by decide +kernel
theorem dX6_aboutCut_30 : decode cX6_aboutCut 30 = .ok (.aload_n 0, 1) := by decide +kernel
theorem dX6_aboutCut_31 : decode cX6_aboutCut 31 = .ok (.getfield 29, 3) := by decide +kernel
theorem dX6_aboutCut_34 : decode cX6_aboutCut 34 = .ok (.getfield 105, 3) := by decide +kernel
theorem dX6_aboutCut_37 : decode cX6_aboutCut 37 = .ok (.invokestatic 226, 3) := by decide +kernel
theorem dX6_aboutCut_40 : decode cX6_aboutCut 40 = .ok (.ireturn, 1) := by decide +kernel
theorem dX6_aboutCut_41 : decode cX6_aboutCut 41 = .ok (.aload_n 0, 1) := by decide +kernel
theorem dX6_aboutCut_42 : decode cX6_aboutCut 42 = .ok (.getfield 29, 3) := by decide +kernel
theorem dX6_aboutCut_45 : decode cX6_aboutCut 45 = .ok (.getfield 229, 3) := by decide +kernel
theorem dX6_aboutCut_48 : decode cX6_aboutCut 48 = .ok (.ireturn, 1) := by decide +kernel
theorem dX6_meets_0 : decode cX6_meets 0 = .ok (.aload_n 0, 1) := by decide +kernel
theorem dX6_meets_1 : decode cX6_meets 1 = .ok (.getfield 10, 3) := by decide +kernel
theorem dX6_meets_4 : decode cX6_meets 4 = .ok (.iload_n 1, 1) := by decide +kernel
theorem dX6_meets_5 : decode cX6_meets 5 = .ok (.invokevirtual 80, 3) := by decide +kernel
theorem dX6_meets_8 : decode cX6_meets 8 = .ok (.ifCond .eq 14, 3) := by decide +kernel
theorem dX6_meets_11 : decode cX6_meets 11 = .ok (.aload_n 0, 1) := by decide +kernel
theorem dX6_meets_12 : decode cX6_meets 12 = .ok (.getfield 10, 3) := by decide +kernel
theorem dX6_meets_15 : decode cX6_meets 15 = .ok (.iload_n 2, 1) := by decide +kernel
theorem dX6_meets_16 : decode cX6_meets 16 = .ok (.invokevirtual 80, 3) := by decide +kernel
theorem dX6_meets_19 : decode cX6_meets 19 = .ok (.ifCond .ne 5, 3) := by decide +kernel
theorem dX6_meets_22 : decode cX6_meets 22 = .ok (.iconst (-1), 1) := by decide +kernel
theorem dX6_meets_23 : decode cX6_meets 23 = .ok (.ireturn, 1) := by decide +kernel
theorem dX6_meets_24 : decode cX6_meets 24 = .ok (.iload_n 1, 1) := by decide +kernel
theorem dX6_meets_25 : decode cX6_meets 25 = .ok (.iload_n 2, 1) := by decide +kernel
theorem dX6_meets_26 : decode cX6_meets 26 = .ok (.if_icmp .ne 6, 3) := by decide +kernel
theorem dX6_meets_29 : decode cX6_meets 29 = .ok (.bipush (-2), 2) := by decide +kernel
theorem dX6_meets_31 : decode cX6_meets 31 = .ok (.ireturn, 1) := by decide +kernel
theorem dX6_meets_32 : decode cX6_meets 32 = .ok (.aload_n 0, 1) := by decide +kernel
theorem dX6_meets_33 : decode cX6_meets 33 = .ok (.getfield 10, 3) := by decide +kernel
theorem dX6_meets_36 : decode cX6_meets 36 = .ok (.iload_n 1, 1) := by decide +kernel
theorem dX6_meets_37 : decode cX6_meets 37 = .ok (.invokevirtual 84, 3) := by decide +kernel
theorem dX6_meets_40 : decode cX6_meets 40 = .ok (.ifCond .eq 14, 3) := by decide +kernel
theorem dX6_meets_43 : decode cX6_meets 43 = .ok (.aload_n 0, 1) := by decide +kernel
theorem dX6_meets_44 : decode cX6_meets 44 = .ok (.getfield 10, 3) := by decide +kernel
theorem dX6_meets_47 : decode cX6_meets 47 = .ok (.iload_n 2, 1) := by decide +kernel
theorem dX6_meets_48 : decode cX6_meets 48 = .ok (.invokevirtual 84, 3) := by decide +kernel
theorem dX6_meets_51 : decode cX6_meets 51 = .ok (.ifCond .ne 6, 3) := by decide +kernel
theorem dX6_meets_54 : decode cX6_meets 54 = .ok (.bipush (-5), 2) := by decide +kernel
theorem dX6_meets_56 : decode cX6_meets 56 = .ok (.ireturn, 1) := by decide +kernel
theorem dX6_meets_57 : decode cX6_meets 57 = .ok (.aload_n 0, 1) := by decide +kernel
theorem dX6_meets_58 : decode cX6_meets 58 = .ok (.getfield 22, 3) := by decide +kernel
theorem dX6_meets_61 : decode cX6_meets 61 = .ok (.aload_n 0, 1) := by decide +kernel
theorem dX6_meets_62 : decode cX6_meets 62 = .ok (.getfield 10, 3) := by decide +kernel
theorem dX6_meets_65 : decode cX6_meets 65 = .ok (.invokevirtual 170, 3) := by decide +kernel
theorem dX6_meets_68 : decode cX6_meets 68 = .ok (.aload_n 0, 1) := by decide +kernel
theorem dX6_meets_69 : decode cX6_meets 69 = .ok (.getfield 22, 3) := by decide +kernel
theorem dX6_meets_72 : decode cX6_meets 72 = .ok (.iload_n 1, 1) := by decide +kernel
theorem dX6_meets_73 : decode cX6_meets 73 = .ok (.iload_n 2, 1) := by decide +kernel
theorem dX6_meets_74 : decode cX6_meets 74 = .ok (.invokevirtual 179, 3) := by decide +kernel
theorem dX6_meets_77 : decode cX6_meets 77 = .ok (.ifCond .eq 5, 3) := by decide +kernel
theorem dX6_meets_80 : decode cX6_meets 80 = .ok (.iconst 0, 1) := by decide +kernel
theorem dX6_meets_81 : decode cX6_meets 81 = .ok (.ireturn, 1) := by decide +kernel
theorem dX6_meets_82 : decode cX6_meets 82 = .ok (.aload_n 0, 1) := by decide +kernel
theorem dX6_meets_83 : decode cX6_meets 83 = .ok (.getfield 16, 3) := by decide +kernel
theorem dX6_meets_86 : decode cX6_meets 86 = .ok (.aload_n 0, 1) := by decide +kernel
theorem dX6_meets_87 : decode cX6_meets 87 = .ok (.getfield 10, 3) := by decide +kernel
theorem dX6_meets_90 : decode cX6_meets 90 = .ok (.invokevirtual 220, 3) := by decide +kernel
theorem dX6_meets_93 : decode cX6_meets 93 = .ok (.iconst 1, 1) := by decide +kernel
theorem dX6_meets_94 : decode cX6_meets 94 = .ok (.istore_n 3, 1) := by decide +kernel
theorem dX6_meets_95 : decode cX6_meets 95 = .ok (.iload_n 3, 1) := by decide +kernel
theorem dX6_meets_96 : decode cX6_meets 96 = .ok (.sipush 300, 3) := by decide +kernel
theorem dX6_meets_99 : decode cX6_meets 99 = .ok (.if_icmp .gt 37, 3) := by decide +kernel
theorem dX6_meets_102 : decode cX6_meets 102 = .ok (.aload_n 0, 1) := by decide +kernel
theorem dX6_meets_103 : decode cX6_meets 103 = .ok (.getfield 29, 3) := by decide +kernel
theorem dX6_meets_106 : decode cX6_meets 106 = .ok (.aload_n 0, 1) := by decide +kernel
theorem dX6_meets_107 : decode cX6_meets 107 = .ok (.getfield 16, 3) := by decide +kernel
theorem dX6_meets_110 : decode cX6_meets 110 = .ok (.invokevirtual 102, 3) := by decide +kernel
theorem dX6_meets_113 : decode cX6_meets 113 = .ok (.aload_n 0, 1) := by decide +kernel
theorem dX6_meets_114 : decode cX6_meets 114 = .ok (.getfield 29, 3) := by decide +kernel
theorem dX6_meets_117 : decode cX6_meets 117 = .ok (.getfield 232, 3) := by decide +kernel
theorem dX6_meets_120 : decode cX6_meets 120 = .ok (.iload_n 1, 1) := by decide +kernel
theorem dX6_meets_121 : decode cX6_meets 121 = .ok (.iload_n 2, 1) := by decide +kernel
theorem dX6_meets_122 : decode cX6_meets 122 = .ok (.invokevirtual 179, 3) := by decide +kernel
theorem dX6_meets_125 : decode cX6_meets 125 = .ok (.ifCond .eq 5, 3) := by decide +kernel
theorem dX6_meets_128 : decode cX6_meets 128 = .ok (.iload_n 3, 1) := by decide +kernel
theorem dX6_meets_129 : decode cX6_meets 129 = .ok (.ireturn, 1) := by decide +kernel
theorem dX6_meets_130 : decode cX6_meets 130 = .ok (.iinc 3 1, 3) := by decide +kernel
theorem dX6_meets_133 : decode cX6_meets 133 = .ok (.goto (-38), 3) := by decide +kernel
theorem dX6_meets_136 : decode cX6_meets 136 = .ok (.bipush (-6), 2) := by decide +kernel
theorem dX6_meets_138 : decode cX6_meets 138 = .ok (.ireturn, 1) := by decide +kernel
theorem dX6_isWithin_0 : decode cX6_isWithin 0 = .ok (.iload_n 0, 1) := by decide +kernel
theorem dX6_isWithin_1 : decode cX6_isWithin 1 = .ok (.iload_n 1, 1) := by decide +kernel
theorem dX6_isWithin_2 : decode cX6_isWithin 2 = .ok (.if_icmp .lt 12, 3) := by decide +kernel
theorem dX6_isWithin_5 : decode cX6_isWithin 5 = .ok (.iload_n 0, 1) := by decide +kernel
theorem dX6_isWithin_6 : decode cX6_isWithin 6 = .ok (.iload_n 2, 1) := by decide +kernel
theorem dX6_isWithin_7 : decode cX6_isWithin 7 = .ok (.if_icmp .gt 7, 3) := by decide +kernel
theorem dX6_isWithin_10 : decode cX6_isWithin 10 = .ok (.iconst 1, 1) := by decide +kernel
theorem dX6_isWithin_11 : decode cX6_isWithin 11 = .ok (.goto 4, 3) := by decide +kernel
theorem dX6_isWithin_14 : decode cX6_isWithin 14 = .ok (.iconst 0, 1) := by decide +kernel
theorem dX6_isWithin_15 : decode cX6_isWithin 15 = .ok (.ireturn, 1) := by decide +kernel
theorem dX6_lowestOf_0 : decode cX6_lowestOf 0 = .ok (.iconst 0, 1) := by decide +kernel
theorem dX6_lowestOf_1 : decode cX6_lowestOf 1 = .ok (.istore_n 1, 1) := by decide +kernel
theorem dX6_lowestOf_2 : decode cX6_lowestOf 2 = .ok (.iload_n 1, 1) := by decide +kernel
theorem dX6_lowestOf_3 : decode cX6_lowestOf 3 = .ok (.bipush 6, 2) := by decide +kernel
theorem dX6_lowestOf_5 : decode cX6_lowestOf 5 = .ok (.if_icmp .ge 20, 3) := by decide +kernel
theorem dX6_lowestOf_8 : decode cX6_lowestOf 8 = .ok (.iload_n 0, 1) := by decide +kernel
theorem dX6_lowestOf_9 : decode cX6_lowestOf 9 = .ok (.iload_n 1, 1) := by decide +kernel
theorem dX6_lowestOf_10 : decode cX6_lowestOf 10 = .ok (.ishr, 1) := by decide +kernel
theorem dX6_lowestOf_11 : decode cX6_lowestOf 11 = .ok (.iconst 1, 1) := by decide +kernel
theorem dX6_lowestOf_12 : decode cX6_lowestOf 12 = .ok (.iand, 1) := by decide +kernel
theorem dX6_lowestOf_13 : decode cX6_lowestOf 13 = .ok (.iconst 1, 1) := by decide +kernel
theorem dX6_lowestOf_14 : decode cX6_lowestOf 14 = .ok (.if_icmp .ne 5, 3) := by decide +kernel
theorem dX6_lowestOf_17 : decode cX6_lowestOf 17 = .ok (.iload_n 1, 1) := by decide +kernel
theorem dX6_lowestOf_18 : decode cX6_lowestOf 18 = .ok (.ireturn, 1) := by decide +kernel
theorem dX6_lowestOf_19 : decode cX6_lowestOf 19 = .ok (.iinc 1 1, 3) := by decide +kernel
theorem dX6_lowestOf_22 : decode cX6_lowestOf 22 = .ok (.goto (-20), 3) := by decide +kernel
theorem dX6_lowestOf_25 : decode cX6_lowestOf 25 = .ok (.bipush (-6), 2) := by decide +kernel
theorem dX6_lowestOf_27 : decode cX6_lowestOf 27 = .ok (.ireturn, 1) := by decide +kernel
