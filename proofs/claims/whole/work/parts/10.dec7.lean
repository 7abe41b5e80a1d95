theorem dX7_init_0 : decode cX7_init 0 = .ok (.aload_n 0, 1) := by decide +kernel
theorem dX7_init_1 : decode cX7_init 1 = .ok (.invokespecial 1, 3) := by decide +kernel
theorem dX7_init_4 : decode cX7_init 4 = .ok (.aload_n 0, 1) := by decide +kernel
theorem dX7_init_5 : decode cX7_init 5 = .ok (.sipush 268, 3) := by decide +kernel
theorem dX7_init_8 : decode cX7_init 8 = .ok (.newarray .int, 2) := by decide +kernel
theorem dX7_init_10 : decode cX7_init 10 = .ok (.putfield 7, 3) := by decide +kernel
theorem dX7_init_13 : decode cX7_init 13 = .ok (.aload_n 0, 1) := by decide +kernel
theorem dX7_init_14 : decode cX7_init 14 = .ok (.sipush 268, 3) := by decide +kernel
theorem dX7_init_17 : decode cX7_init 17 = .ok (.newarray .int, 2) := by decide +kernel
theorem dX7_init_19 : decode cX7_init 19 = .ok (.putfield 13, 3) := by decide +kernel
theorem dX7_init_22 : decode cX7_init 22 = .ok (.aload_n 0, 1) := by decide +kernel
theorem dX7_init_23 : decode cX7_init 23 = .ok (.sipush 1608, 3) := by decide +kernel
theorem dX7_init_26 : decode cX7_init 26 = .ok (.newarray .int, 2) := by decide +kernel
theorem dX7_init_28 : decode cX7_init 28 = .ok (.putfield 16, 3) := by decide +kernel
theorem dX7_init_31 : decode cX7_init 31 = .ok (.aload_n 0, 1) := by decide +kernel
theorem dX7_init_32 : decode cX7_init 32 = .ok (.sipush 536, 3) := by decide +kernel
theorem dX7_init_35 : decode cX7_init 35 = .ok (.newarray .int, 2) := by decide +kernel
theorem dX7_init_37 : decode cX7_init 37 = .ok (.putfield 19, 3) := by decide +kernel
theorem dX7_init_40 : decode cX7_init 40 = .ok (.aload_n 0, 1) := by decide +kernel
theorem dX7_init_41 : decode cX7_init 41 = .ok (.iconst 2, 1) := by decide +kernel
theorem dX7_init_42 : decode cX7_init 42 = .ok (.newarray .int, 2) := by decide +kernel
theorem dX7_init_44 : decode cX7_init 44 = .ok (.putfield 22, 3) := by decide +kernel
theorem dX7_init_47 : decode cX7_init 47 = .ok (.aload_n 0, 1) := by decide +kernel
theorem dX7_init_48 : decode cX7_init 48 = .ok (.bipush 60, 2) := by decide +kernel
theorem dX7_init_50 : decode cX7_init 50 = .ok (.newarray .int, 2) := by decide +kernel
theorem dX7_init_52 : decode cX7_init 52 = .ok (.putfield 25, 3) := by decide +kernel
theorem dX7_init_55 : decode cX7_init 55 = .ok (.aload_n 0, 1) := by decide +kernel
theorem dX7_init_56 : decode cX7_init 56 = .ok (.bipush 36, 2) := by decide +kernel
theorem dX7_init_58 : decode cX7_init 58 = .ok (.newarray .int, 2) := by decide +kernel
theorem dX7_init_60 : decode cX7_init 60 = .ok (.putfield 28, 3) := by decide +kernel
theorem dX7_init_63 : decode cX7_init 63 = .ok (.aload_n 0, 1) := by decide +kernel
theorem dX7_init_64 : decode cX7_init 64 = .ok (.getfield 7, 3) := by decide +kernel
theorem dX7_init_67 : decode cX7_init 67 = .ok (.iconst 0, 1) := by decide +kernel
theorem dX7_init_68 : decode cX7_init 68 = .ok (.iconst 0, 1) := by decide +kernel
theorem dX7_init_69 : decode cX7_init 69 = .ok (.iastore, 1) := by decide +kernel
theorem dX7_init_70 : decode cX7_init 70 = .ok (.return_, 1) := by decide +kernel
theorem dX7_moves_0 : decode cX7_moves 0 = .ok (.iconst 0, 1) := by decide +kernel
theorem dX7_moves_1 : decode cX7_moves 1 = .ok (.istore 4, 2) := by decide +kernel
theorem dX7_moves_3 : decode cX7_moves 3 = .ok (.iload 4, 2) := by decide +kernel
theorem dX7_moves_5 : decode cX7_moves 5 = .ok (.sipush 268, 3) := by decide +kernel
theorem dX7_moves_8 : decode cX7_moves 8 = .ok (.if_icmp .ge 21, 3) := by decide +kernel
theorem dX7_moves_11 : decode cX7_moves 11 = .ok (.aload_n 2, 1) := by decide +kernel
theorem dX7_moves_12 : decode cX7_moves 12 = .ok (.iload_n 3, 1) := by decide +kernel
theorem dX7_moves_13 : decode cX7_moves 13 = .ok (.iload 4, 2) := by decide +kernel
theorem dX7_moves_15 : decode cX7_moves 15 = .ok (.iadd, 1) := by decide +kernel
theorem dX7_moves_16 : decode cX7_moves 16 = .ok (.aload_n 0, 1) := by decide +kernel
theorem dX7_moves_17 : decode cX7_moves 17 = .ok (.iload_n 1, 1) := by decide +kernel
theorem dX7_moves_18 : decode cX7_moves 18 = .ok (.iload 4, 2) := by decide +kernel
theorem dX7_moves_20 : decode cX7_moves 20 = .ok (.iadd, 1) := by decide +kernel
theorem dX7_moves_21 : decode cX7_moves 21 = .ok (.iaload, 1) := by decide +kernel
theorem dX7_moves_22 : decode cX7_moves 22 = .ok (.iastore, 1) := by decide +kernel
theorem dX7_moves_23 : decode cX7_moves 23 = .ok (.iinc 4 1, 3) := by decide +kernel
theorem dX7_moves_26 : decode cX7_moves 26 = .ok (.goto (-23), 3) := by decide +kernel
theorem dX7_moves_29 : decode cX7_moves 29 = .ok (.return_, 1) := by decide +kernel
theorem dX7_within_0 : decode cX7_within 0 = .ok (.iload_n 0, 1) := by decide +kernel
theorem dX7_within_1 : decode cX7_within 1 = .ok (.iload_n 1, 1) := by decide +kernel
theorem dX7_within_2 : decode cX7_within 2 = .ok (.if_icmp .lt 12, 3) := by decide +kernel
theorem dX7_within_5 : decode cX7_within 5 = .ok (.iload_n 0, 1) := by decide +kernel
theorem dX7_within_6 : decode cX7_within 6 = .ok (.iload_n 2, 1) := by decide +kernel
theorem dX7_within_7 : decode cX7_within 7 = .ok (.if_icmp .gt 7, 3) := by decide +kernel
theorem dX7_within_10 : decode cX7_within 10 = .ok (.iconst 1, 1) := by decide +kernel
theorem dX7_within_11 : decode cX7_within 11 = .ok (.goto 4, 3) := by decide +kernel
theorem dX7_within_14 : decode cX7_within 14 = .ok (.iconst 0, 1) := by decide +kernel
theorem dX7_within_15 : decode cX7_within 15 = .ok (.ireturn, 1) := by decide +kernel
theorem dX7_size_0 : decode cX7_size 0 = .ok (.iload_n 0, 1) := by decide +kernel
theorem dX7_size_1 : decode cX7_size 1 = .ok (.ifCond .ge 8, 3) := by decide +kernel
theorem dX7_size_4 : decode cX7_size 4 = .ok (.iload_n 0, 1) := by decide +kernel
theorem dX7_size_5 : decode cX7_size 5 = .ok (.ineg, 1) := by decide +kernel
theorem dX7_size_6 : decode cX7_size 6 = .ok (.goto 4, 3) := by decide +kernel
theorem dX7_size_9 : decode cX7_size 9 = .ok (.iload_n 0, 1) := by decide +kernel
theorem dX7_size_10 : decode cX7_size 10 = .ok (.ireturn, 1) := by decide +kernel
theorem dX7_record_0 : decode cX7_record 0 = .ok (.aload_n 0, 1) := by decide +kernel
theorem dX7_record_1 : decode cX7_record 1 = .ok (.getfield 31, 3) := by decide +kernel
theorem dX7_record_4 : decode cX7_record 4 = .ok (.bipush 6, 2) := by decide +kernel
theorem dX7_record_6 : decode cX7_record 6 = .ok (.if_icmp .ne 44, 3) := by decide +kernel
theorem dX7_record_9 : decode cX7_record 9 = .ok (.iconst 0, 1) := by decide +kernel
theorem dX7_record_10 : decode cX7_record 10 = .ok (.istore_n 1, 1) := by decide +kernel
theorem dX7_record_11 : decode cX7_record 11 = .ok (.iload_n 1, 1) := by decide +kernel
theorem dX7_record_12 : decode cX7_record 12 = .ok (.sipush 1340, 3) := by decide +kernel
theorem dX7_record_15 : decode cX7_record 15 = .ok (.if_icmp .ge 25, 3) := by decide +kernel
theorem dX7_record_18 : decode cX7_record 18 = .ok (.aload_n 0, 1) := by decide +kernel
theorem dX7_record_19 : decode cX7_record 19 = .ok (.getfield 16, 3) := by decide +kernel
theorem dX7_record_22 : decode cX7_record 22 = .ok (.iload_n 1, 1) := by decide +kernel
theorem dX7_record_23 : decode cX7_record 23 = .ok (.aload_n 0, 1) := by decide +kernel
theorem dX7_record_24 : decode cX7_record 24 = .ok (.getfield 16, 3) := by decide +kernel
theorem dX7_record_27 : decode cX7_record 27 = .ok (.iload_n 1, 1) := by decide +kernel
theorem dX7_record_28 : decode cX7_record 28 = .ok (.sipush 268, 3) := by decide +kernel
theorem dX7_record_31 : decode cX7_record 31 = .ok (.iadd, 1) := by decide +kernel
theorem dX7_record_32 : decode cX7_record 32 = .ok (.iaload, 1) := by decide +kernel
theorem dX7_record_33 : decode cX7_record 33 = .ok (.iastore, 1) := by decide +kernel
theorem dX7_record_34 : decode cX7_record 34 = .ok (.iinc 1 1, 3) := by decide +kernel
theorem dX7_record_37 : decode cX7_record 37 = .ok (.goto (-26), 3) := by decide +kernel
theorem dX7_record_40 : decode cX7_record 40 = .ok (.aload_n 0, 1) := by decide +kernel
theorem dX7_record_41 : decode cX7_record 41 = .ok (.dup, 1) := by decide +kernel
theorem dX7_record_42 : decode cX7_record 42 = .ok (.getfield 31, 3) := by decide +kernel
theorem dX7_record_45 : decode cX7_record 45 = .ok (.iconst 1, 1) := by decide +kernel
theorem dX7_record_46 : decode cX7_record 46 = .ok (.isub, 1) := by decide +kernel
theorem dX7_record_47 : decode cX7_record 47 = .ok (.putfield 31, 3) := by decide +kernel
theorem dX7_record_50 : decode cX7_record 50 = .ok (.aload_n 0, 1) := by decide +kernel
theorem dX7_record_51 : decode cX7_record 51 = .ok (.getfield 7, 3) := by decide +kernel
theorem dX7_record_54 : decode cX7_record 54 = .ok (.iconst 0, 1) := by decide +kernel
theorem dX7_record_55 : decode cX7_record 55 = .ok (.aload_n 0, 1) := by decide +kernel
theorem dX7_record_56 : decode cX7_record 56 = .ok (.getfield 16, 3) := by decide +kernel
theorem dX7_record_59 : decode cX7_record 59 = .ok (.aload_n 0, 1) := by decide +kernel
theorem dX7_record_60 : decode cX7_record 60 = .ok (.getfield 31, 3) := by decide +kernel
theorem dX7_record_63 : decode cX7_record 63 = .ok (.sipush 268, 3) := by decide +kernel
theorem dX7_record_66 : decode cX7_record 66 = .ok (.imul, 1) := by decide +kernel
theorem dX7_record_67 : decode cX7_record 67 = .ok (.invokestatic 35, 3) := by decide +kernel
theorem dX7_record_70 : decode cX7_record 70 = .ok (.aload_n 0, 1) := by decide +kernel
theorem dX7_record_71 : decode cX7_record 71 = .ok (.dup, 1) := by decide +kernel
theorem dX7_record_72 : decode cX7_record 72 = .ok (.getfield 31, 3) := by decide +kernel
theorem dX7_record_75 : decode cX7_record 75 = .ok (.iconst 1, 1) := by decide +kernel
theorem dX7_record_76 : decode cX7_record 76 = .ok (.iadd, 1) := by decide +kernel
theorem dX7_record_77 : decode cX7_record 77 = .ok (.putfield 31, 3) := by decide +kernel
theorem dX7_record_80 : decode cX7_record 80 = .ok (.return_, 1) := by decide +kernel
theorem dX7_isKite_0 : decode cX7_isKite 0 = .ok (.iload_n 1, 1) := by decide +kernel
theorem dX7_isKite_1 : decode cX7_isKite 1 = .ok (.iconst 0, 1) := by decide +kernel
theorem dX7_isKite_2 : decode cX7_isKite 2 = .ok (.aload_n 0, 1) := by decide +kernel
theorem dX7_isKite_3 : decode cX7_isKite 3 = .ok (.getfield 7, 3) := by decide +kernel
theorem dX7_isKite_6 : decode cX7_isKite 6 = .ok (.iconst 0, 1) := by decide +kernel
theorem dX7_isKite_7 : decode cX7_isKite 7 = .ok (.iaload, 1) := by decide +kernel
theorem dX7_isKite_8 : decode cX7_isKite 8 = .ok (.iconst 1, 1) := by decide +kernel
theorem dX7_isKite_9 : decode cX7_isKite 9 = .ok (.isub, 1) := by decide +kernel
theorem dX7_isKite_10 : decode cX7_isKite 10 = .ok (.invokestatic 39, 3) := by decide +kernel
theorem dX7_isKite_13 : decode cX7_isKite 13 = .ok (.ireturn, 1) := by decide +kernel
theorem dX7_part_0 : decode cX7_part 0 = .ok (.aload_n 0, 1) := by decide +kernel
theorem dX7_part_1 : decode cX7_part 1 = .ok (.getfield 7, 3) := by decide +kernel
theorem dX7_part_4 : decode cX7_part 4 = .ok (.iconst 4, 1) := by decide +kernel
theorem dX7_part_5 : decode cX7_part 5 = .ok (.bipush 44, 2) := by decide +kernel
theorem dX7_part_7 : decode cX7_part 7 = .ok (.iload_n 1, 1) := by decide +kernel
theorem dX7_part_8 : decode cX7_part 8 = .ok (.imul, 1) := by decide +kernel
theorem dX7_part_9 : decode cX7_part 9 = .ok (.iadd, 1) := by decide +kernel
theorem dX7_part_10 : decode cX7_part 10 = .ok (.iload_n 2, 1) := by decide +kernel
theorem dX7_part_11 : decode cX7_part 11 = .ok (.iadd, 1) := by decide +kernel
theorem dX7_part_12 : decode cX7_part 12 = .ok (.iaload, 1) := by decide +kernel
theorem dX7_part_13 : decode cX7_part 13 = .ok (.ireturn, 1) := by decide +kernel
theorem dX7_setPart_0 : decode cX7_setPart 0 = .ok (.aload_n 0, 1) := by decide +kernel
theorem dX7_setPart_1 : decode cX7_setPart 1 = .ok (.getfield 7, 3) := by decide +kernel
theorem dX7_setPart_4 : decode cX7_setPart 4 = .ok (.iconst 4, 1) := by decide +kernel
theorem dX7_setPart_5 : decode cX7_setPart 5 = .ok (.bipush 44, 2) := by decide +kernel
theorem dX7_setPart_7 : decode cX7_setPart 7 = .ok (.iload_n 1, 1) := by decide +kernel
theorem dX7_setPart_8 : decode cX7_setPart 8 = .ok (.imul, 1) := by decide +kernel
theorem dX7_setPart_9 : decode cX7_setPart 9 = .ok (.iadd, 1) := by decide +kernel
theorem dX7_setPart_10 : decode cX7_setPart 10 = .ok (.iload_n 2, 1) := by decide +kernel
theorem dX7_setPart_11 : decode cX7_setPart 11 = .ok (.iadd, 1) := by decide +kernel
theorem dX7_setPart_12 : decode cX7_setPart 12 = .ok (.iload_n 3, 1) := by decide +kernel
theorem dX7_setPart_13 : decode cX7_setPart 13 = .ok (.iastore, 1) := by decide +kernel
theorem dX7_setPart_14 : decode cX7_setPart 14 = .ok (.return_, 1) := by decide +kernel
theorem dX7_flies_0 : decode cX7_flies 0 = .ok (.aload_n 0, 1) := by decide +kernel
theorem dX7_flies_1 : decode cX7_flies 1 = .ok (.iload_n 1, 1) := by decide +kernel
theorem dX7_flies_2 : decode cX7_flies 2 = .ok (.bipush 8, 2) := by decide +kernel
theorem dX7_flies_4 : decode cX7_flies 4 = .ok (.invokevirtual 43, 3) := by decide +kernel
theorem dX7_flies_7 : decode cX7_flies 7 = .ok (.ifCond .ne 7, 3) := by decide +kernel
theorem dX7_flies_10 : decode cX7_flies 10 = .ok (.iconst 1, 1) := by decide +kernel
theorem dX7_flies_11 : decode cX7_flies 11 = .ok (.goto 4, 3) := by decide +kernel
theorem dX7_flies_14 : decode cX7_flies 14 = .ok (.iconst 0, 1) := by decide +kernel
theorem dX7_flies_15 : decode cX7_flies 15 = .ok (.ireturn, 1) := by decide +kernel
theorem dX7_greatestWear_0 : decode cX7_greatestWear 0 = .ok (.iconst 0, 1) := by decide +kernel
theorem dX7_greatestWear_1 : decode cX7_greatestWear 1 = .ok (.istore_n 2, 1) := by decide +kernel
theorem dX7_greatestWear_2 : decode cX7_greatestWear 2 = .ok (.iconst 0, 1) := by decide +kernel
theorem dX7_greatestWear_3 : decode cX7_greatestWear 3 = .ok (.istore_n 3, 1) := by decide +kernel
theorem dX7_greatestWear_4 : decode cX7_greatestWear 4 = .ok (.iload_n 3, 1) := by decide +kernel
theorem dX7_greatestWear_5 : decode cX7_greatestWear 5 = .ok (.bipush 32, 2) := by decide +kernel
theorem dX7_greatestWear_7 : decode cX7_greatestWear 7 = .ok (.if_icmp .ge 36, 3) := by decide +kernel
theorem dX7_greatestWear_10 : decode cX7_greatestWear 10 = .ok (.aload_n 0, 1) := by decide +kernel
theorem dX7_greatestWear_11 : decode cX7_greatestWear 11 = .ok (.iload_n 1, 1) := by decide +kernel
theorem dX7_greatestWear_12 : decode cX7_greatestWear 12 = .ok (.bipush 12, 2) := by decide +kernel
theorem dX7_greatestWear_14 : decode cX7_greatestWear 14 = .ok (.iload_n 3, 1) := by decide +kernel
theorem dX7_greatestWear_15 : decode cX7_greatestWear 15 = .ok (.iadd, 1) := by decide +kernel
theorem dX7_greatestWear_16 : decode cX7_greatestWear 16 = .ok (.invokevirtual 43, 3) := by decide +kernel
theorem dX7_greatestWear_19 : decode cX7_greatestWear 19 = .ok (.iload_n 2, 1) := by decide +kernel
theorem dX7_greatestWear_20 : decode cX7_greatestWear 20 = .ok (.if_icmp .le 15, 3) := by decide +kernel
theorem dX7_greatestWear_23 : decode cX7_greatestWear 23 = .ok (.aload_n 0, 1) := by decide +kernel
theorem dX7_greatestWear_24 : decode cX7_greatestWear 24 = .ok (.iload_n 1, 1) := by decide +kernel
theorem dX7_greatestWear_25 : decode cX7_greatestWear 25 = .ok (.bipush 12, 2) := by decide +kernel
theorem dX7_greatestWear_27 : decode cX7_greatestWear 27 = .ok (.iload_n 3, 1) := by decide +kernel
theorem dX7_greatestWear_28 : decode cX7_greatestWear 28 = .ok (.iadd, 1) := by decide +kernel
theorem dX7_greatestWear_29 : decode cX7_greatestWear 29 = .ok (.invokevirtual 43, 3) := by decide +kernel
theorem dX7_greatestWear_32 : decode cX7_greatestWear 32 = .ok (.goto 4, 3) := by decide +kernel
theorem dX7_greatestWear_35 : decode cX7_greatestWear 35 = .ok (.iload_n 2, 1) := by decide +kernel
theorem dX7_greatestWear_36 : decode cX7_greatestWear 36 = .ok (.istore_n 2, 1) := by decide +kernel
theorem dX7_greatestWear_37 : decode cX7_greatestWear 37 = .ok (.iinc 3 1, 3) := by decide +kernel
theorem dX7_greatestWear_40 : decode cX7_greatestWear 40 = .ok (.goto (-36), 3) := by decide +kernel
theorem dX7_greatestWear_43 : decode cX7_greatestWear 43 = .ok (.iload_n 2, 1) := by decide +kernel
theorem dX7_greatestWear_44 : decode cX7_greatestWear 44 = .ok (.ireturn, 1) := by decide +kernel
theorem dX7_placeOfGreatest_0 : decode cX7_placeOfGreatest 0 = .ok (.aload_n 0, 1) := by decide +kernel
theorem dX7_placeOfGreatest_1 : decode cX7_placeOfGreatest 1 = .ok (.iload_n 1, 1) := by decide +kernel
theorem dX7_placeOfGreatest_2 : decode cX7_placeOfGreatest 2 = .ok (.invokevirtual 47, 3) := by decide +kernel
theorem dX7_placeOfGreatest_5 : decode cX7_placeOfGreatest 5 = .ok (.istore_n 2, 1) := by decide +kernel
theorem dX7_placeOfGreatest_6 : decode cX7_placeOfGreatest 6 = .ok (.iconst 0, 1) := by decide +kernel
theorem dX7_placeOfGreatest_7 : decode cX7_placeOfGreatest 7 = .ok (.istore_n 3, 1) := by decide +kernel
theorem dX7_placeOfGreatest_8 : decode cX7_placeOfGreatest 8 = .ok (.bipush 31, 2) := by decide +kernel
theorem dX7_placeOfGreatest_10 : decode cX7_placeOfGreatest 10 = .ok (.istore 4, 2) := by decide +kernel
theorem dX7_placeOfGreatest_12 : decode cX7_placeOfGreatest 12 = .ok (.iload 4, 2) := by decide +kernel
theorem dX7_placeOfGreatest_14 : decode cX7_placeOfGreatest 14 = .ok (.ifCond .lt 30, 3) := by decide +kernel
theorem dX7_placeOfGreatest_17 : decode cX7_placeOfGreatest 17 = .ok (.aload_n 0, 1) := by decide +kernel
theorem dX7_placeOfGreatest_18 : decode cX7_placeOfGreatest 18 = .ok (.iload_n 1, 1) := by decide +kernel
theorem dX7_placeOfGreatest_19 : decode cX7_placeOfGreatest 19 = .ok (.bipush 12, 2) := by decide +kernel
theorem dX7_placeOfGreatest_21 : decode cX7_placeOfGreatest 21 = .ok (.iload 4, 2) := by decide +kernel
theorem dX7_placeOfGreatest_23 : decode cX7_placeOfGreatest 23 = .ok (.iadd, 1) := by decide +kernel
theorem dX7_placeOfGreatest_24 : decode cX7_placeOfGreatest 24 = .ok (.invokevirtual 43, 3) := by decide +kernel
theorem dX7_placeOfGreatest_27 : decode cX7_placeOfGreatest 27 = .ok (.iload_n 2, 1) := by decide +kernel
theorem dX7_placeOfGreatest_28 : decode cX7_placeOfGreatest 28 = .ok (.if_icmp .ne 8, 3) := by decide +kernel
theorem dX7_placeOfGreatest_31 : decode cX7_placeOfGreatest 31 = .ok (.iload 4, 2) := by decide +kernel
theorem dX7_placeOfGreatest_33 : decode cX7_placeOfGreatest 33 = .ok (.goto 4, 3) := by decide +kernel
theorem dX7_placeOfGreatest_36 : decode cX7_placeOfGreatest 36 = .ok (.iload_n 3, 1) := by decide +kernel
theorem dX7_placeOfGreatest_37 : decode cX7_placeOfGreatest 37 = .ok (.istore_n 3, 1) := by decide +kernel
theorem dX7_placeOfGreatest_38 : decode cX7_placeOfGreatest 38 = .ok (.iinc 4 (-1), 3) := by decide +kernel
theorem dX7_placeOfGreatest_41 : decode cX7_placeOfGreatest 41 = .ok (.goto (-29), 3) := by decide +kernel
theorem dX7_placeOfGreatest_44 : decode cX7_placeOfGreatest 44 = .ok (.iload_n 3, 1) := by decide +kernel
theorem dX7_placeOfGreatest_45 : decode cX7_placeOfGreatest 45 = .ok (.ireturn, 1) := by decide +kernel
theorem dX7_sideOf_0 : decode cX7_sideOf 0 = .ok (.aload_n 0, 1) := by decide +kernel
theorem dX7_sideOf_1 : decode cX7_sideOf 1 = .ok (.iload_n 1, 1) := by decide +kernel
theorem dX7_sideOf_2 : decode cX7_sideOf 2 = .ok (.iconst 1, 1) := by decide +kernel
theorem dX7_sideOf_3 : decode cX7_sideOf 3 = .ok (.invokevirtual 43, 3) := by decide +kernel
theorem dX7_sideOf_6 : decode cX7_sideOf 6 = .ok (.aload_n 0, 1) := by decide +kernel
theorem dX7_sideOf_7 : decode cX7_sideOf 7 = .ok (.iload_n 1, 1) := by decide +kernel
theorem dX7_sideOf_8 : decode cX7_sideOf 8 = .ok (.iconst 0, 1) := by decide +kernel
theorem dX7_sideOf_9 : decode cX7_sideOf 9 = .ok (.invokevirtual 43, 3) := by decide +kernel
theorem dX7_sideOf_12 : decode cX7_sideOf 12 = .ok (.isub, 1) := by decide +kernel
theorem dX7_sideOf_13 : decode cX7_sideOf 13 = .ok (.iload_n 3, 1) := by decide +kernel
theorem dX7_sideOf_14 : decode cX7_sideOf 14 = .ok (.imul, 1) := by decide +kernel
theorem dX7_sideOf_15 : decode cX7_sideOf 15 = .ok (.aload_n 0, 1) := by decide +kernel
theorem dX7_sideOf_16 : decode cX7_sideOf 16 = .ok (.iload_n 1, 1) := by decide +kernel
theorem dX7_sideOf_17 : decode cX7_sideOf 17 = .ok (.iconst 2, 1) := by decide +kernel
theorem dX7_sideOf_18 : decode cX7_sideOf 18 = .ok (.invokevirtual 43, 3) := by decide +kernel
theorem dX7_sideOf_21 : decode cX7_sideOf 21 = .ok (.iload_n 2, 1) := by decide +kernel
theorem dX7_sideOf_22 : decode cX7_sideOf 22 = .ok (.aload_n 0, 1) := by decide +kernel
theorem dX7_sideOf_23 : decode cX7_sideOf 23 = .ok (.iload_n 1, 1) := by decide +kernel
theorem dX7_sideOf_24 : decode cX7_sideOf 24 = .ok (.iconst 0, 1) := by decide +kernel
theorem dX7_sideOf_25 : decode cX7_sideOf 25 = .ok (.invokevirtual 43, 3) := by decide +kernel
theorem dX7_sideOf_28 : decode cX7_sideOf 28 = .ok (.isub, 1) := by decide +kernel
theorem dX7_sideOf_29 : decode cX7_sideOf 29 = .ok (.imul, 1) := by decide +kernel
theorem dX7_sideOf_30 : decode cX7_sideOf 30 = .ok (.isub, 1) := by decide +kernel
theorem dX7_sideOf_31 : decode cX7_sideOf 31 = .ok (.ireturn, 1) := by decide +kernel
theorem dX7_areApart_0 : decode cX7_areApart 0 = .ok (.iload_n 0, 1) := by decide +kernel
theorem dX7_areApart_1 : decode cX7_areApart 1 = .ok (.ifCond .ge 7, 3) := by decide +kernel
theorem dX7_areApart_4 : decode cX7_areApart 4 = .ok (.iload_n 1, 1) := by decide +kernel
theorem dX7_areApart_5 : decode cX7_areApart 5 = .ok (.ifCond .gt 11, 3) := by decide +kernel
theorem dX7_areApart_8 : decode cX7_areApart 8 = .ok (.iload_n 0, 1) := by decide +kernel
theorem dX7_areApart_9 : decode cX7_areApart 9 = .ok (.ifCond .le 11, 3) := by decide +kernel
theorem dX7_areApart_12 : decode cX7_areApart 12 = .ok (.iload_n 1, 1) := by decide +kernel
theorem dX7_areApart_13 : decode cX7_areApart 13 = .ok (.ifCond .ge 7, 3) := by decide +kernel
theorem dX7_areApart_16 : decode cX7_areApart 16 = .ok (.iconst 1, 1) := by decide +kernel
theorem dX7_areApart_17 : decode cX7_areApart 17 = .ok (.goto 4, 3) := by decide +kernel
theorem dX7_areApart_20 : decode cX7_areApart 20 = .ok (.iconst 0, 1) := by decide +kernel
theorem dX7_areApart_21 : decode cX7_areApart 21 = .ok (.ireturn, 1) := by decide +kernel
theorem dX7_cross_0 : decode cX7_cross 0 = .ok (.aload_n 0, 1) := by decide +kernel
theorem dX7_cross_1 : decode cX7_cross 1 = .ok (.iload_n 1, 1) := by decide +kernel
theorem dX7_cross_2 : decode cX7_cross 2 = .ok (.aload_n 0, 1) := by decide +kernel
theorem dX7_cross_3 : decode cX7_cross 3 = .ok (.iload_n 2, 1) := by decide +kernel
theorem dX7_cross_4 : decode cX7_cross 4 = .ok (.iconst 0, 1) := by decide +kernel
theorem dX7_cross_5 : decode cX7_cross 5 = .ok (.invokevirtual 43, 3) := by decide +kernel
theorem dX7_cross_8 : decode cX7_cross 8 = .ok (.iconst 0, 1) := by decide +kernel
theorem dX7_cross_9 : decode cX7_cross 9 = .ok (.invokevirtual 51, 3) := by decide +kernel
theorem dX7_cross_12 : decode cX7_cross 12 = .ok (.istore_n 3, 1) := by decide +kernel
theorem dX7_cross_13 : decode cX7_cross 13 = .ok (.aload_n 0, 1) := by decide +kernel
theorem dX7_cross_14 : decode cX7_cross 14 = .ok (.iload_n 2, 1) := by decide +kernel
theorem dX7_cross_15 : decode cX7_cross 15 = .ok (.aload_n 0, 1) := by decide +kernel
theorem dX7_cross_16 : decode cX7_cross 16 = .ok (.iload_n 1, 1) := by decide +kernel
theorem dX7_cross_17 : decode cX7_cross 17 = .ok (.iconst 0, 1) := by decide +kernel
theorem dX7_cross_18 : decode cX7_cross 18 = .ok (.invokevirtual 43, 3) := by decide +kernel
theorem dX7_cross_21 : decode cX7_cross 21 = .ok (.iconst 0, 1) := by decide +kernel
theorem dX7_cross_22 : decode cX7_cross 22 = .ok (.invokevirtual 51, 3) := by decide +kernel
theorem dX7_cross_25 : decode cX7_cross 25 = .ok (.istore 4, 2) := by decide +kernel
theorem dX7_cross_27 : decode cX7_cross 27 = .ok (.aload_n 0, 1) := by decide +kernel
theorem dX7_cross_28 : decode cX7_cross 28 = .ok (.iload_n 1, 1) := by decide +kernel
theorem dX7_cross_29 : decode cX7_cross 29 = .ok (.aload_n 0, 1) := by decide +kernel
theorem dX7_cross_30 : decode cX7_cross 30 = .ok (.iload_n 2, 1) := by decide +kernel
theorem dX7_cross_31 : decode cX7_cross 31 = .ok (.iconst 1, 1) := by decide +kernel
theorem dX7_cross_32 : decode cX7_cross 32 = .ok (.invokevirtual 43, 3) := by decide +kernel
theorem dX7_cross_35 : decode cX7_cross 35 = .ok (.aload_n 0, 1) := by decide +kernel
theorem dX7_cross_36 : decode cX7_cross 36 = .ok (.iload_n 2, 1) := by decide +kernel
theorem dX7_cross_37 : decode cX7_cross 37 = .ok (.iconst 2, 1) := by decide +kernel
theorem dX7_cross_38 : decode cX7_cross 38 = .ok (.invokevirtual 43, 3) := by decide +kernel
theorem dX7_cross_41 : decode cX7_cross 41 = .ok (.invokevirtual 51, 3) := by decide +kernel
theorem dX7_cross_44 : decode cX7_cross 44 = .ok (.istore 5, 2) := by decide +kernel
theorem dX7_cross_46 : decode cX7_cross 46 = .ok (.aload_n 0, 1) := by decide +kernel
theorem dX7_cross_47 : decode cX7_cross 47 = .ok (.iload_n 2, 1) := by decide +kernel
theorem dX7_cross_48 : decode cX7_cross 48 = .ok (.aload_n 0, 1) := by decide +kernel
theorem dX7_cross_49 : decode cX7_cross 49 = .ok (.iload_n 1, 1) := by decide +kernel
theorem dX7_cross_50 : decode cX7_cross 50 = .ok (.iconst 1, 1) := by decide +kernel
theorem dX7_cross_51 : decode cX7_cross 51 = .ok (.invokevirtual 43, 3) := by decide +kernel
theorem dX7_cross_54 : decode cX7_cross 54 = .ok (.aload_n 0, 1) := by decide +kernel
theorem dX7_cross_55 : decode cX7_cross 55 = .ok (.iload_n 1, 1) := by decide +kernel
theorem dX7_cross_56 : decode cX7_cross 56 = .ok (.iconst 2, 1) := by decide +kernel
theorem dX7_cross_57 : decode cX7_cross 57 = .ok (.invokevirtual 43, 3) := by decide +kernel
theorem dX7_cross_60 : decode cX7_cross 60 = .ok (.invokevirtual 51, 3) := by decide +kernel
theorem dX7_cross_63 : decode cX7_cross 63 = .ok (.istore 6, 2) := by decide +kernel
theorem dX7_cross_65 : decode cX7_cross 65 = .ok (.aload_n 0, 1) := by decide +kernel
theorem dX7_cross_66 : decode cX7_cross 66 = .ok (.iload_n 1, 1) := by decide +kernel
theorem dX7_cross_67 : decode cX7_cross 67 = .ok (.invokevirtual 55, 3) := by decide +kernel
theorem dX7_cross_70 : decode cX7_cross 70 = .ok (.ifCond .eq 34, 3) := by decide +kernel
theorem dX7_cross_73 : decode cX7_cross 73 = .ok (.aload_n 0, 1) := by decide +kernel
theorem dX7_cross_74 : decode cX7_cross 74 = .ok (.iload_n 2, 1) := by decide +kernel
theorem dX7_cross_75 : decode cX7_cross 75 = .ok (.invokevirtual 55, 3) := by decide +kernel
theorem dX7_cross_78 : decode cX7_cross 78 = .ok (.ifCond .eq 26, 3) := by decide +kernel
theorem dX7_cross_81 : decode cX7_cross 81 = .ok (.iload_n 3, 1) := by decide +kernel
theorem dX7_cross_82 : decode cX7_cross 82 = .ok (.iload 5, 2) := by decide +kernel
theorem dX7_cross_84 : decode cX7_cross 84 = .ok (.invokestatic 59, 3) := by decide +kernel
theorem dX7_cross_87 : decode cX7_cross 87 = .ok (.ifCond .eq 17, 3) := by decide +kernel
theorem dX7_cross_90 : decode cX7_cross 90 = .ok (.iload 4, 2) := by decide +kernel
theorem dX7_cross_92 : decode cX7_cross 92 = .ok (.iload 6, 2) := by decide +kernel
theorem dX7_cross_94 : decode cX7_cross 94 = .ok (.invokestatic 59, 3) := by decide +kernel
theorem dX7_cross_97 : decode cX7_cross 97 = .ok (.ifCond .eq 7, 3) := by decide +kernel
theorem dX7_cross_100 : decode cX7_cross 100 = .ok (.iconst 1, 1) := by decide +kernel
theorem dX7_cross_101 : decode cX7_cross 101 = .ok (.goto 4, 3) := by decide +kernel
theorem dX7_cross_104 : decode cX7_cross 104 = .ok (.iconst 0, 1) := by decide +kernel
theorem dX7_cross_105 : decode cX7_cross 105 = .ok (.istore 7, 2) := by decide +kernel
theorem dX7_cross_107 : decode cX7_cross 107 = .ok (.iload 7, 2) := by decide +kernel
theorem dX7_cross_109 : decode cX7_cross 109 = .ok (.ifCond .eq 135, 3) := by decide +kernel
theorem dX7_cross_112 : decode cX7_cross 112 = .ok (.aload_n 0, 1) := by decide +kernel
theorem dX7_cross_113 : decode cX7_cross 113 = .ok (.iload_n 1, 1) := by decide +kernel
theorem dX7_cross_114 : decode cX7_cross 114 = .ok (.iconst 1, 1) := by decide +kernel
theorem dX7_cross_115 : decode cX7_cross 115 = .ok (.invokevirtual 43, 3) := by decide +kernel
theorem dX7_cross_118 : decode cX7_cross 118 = .ok (.aload_n 0, 1) := by decide +kernel
theorem dX7_cross_119 : decode cX7_cross 119 = .ok (.iload_n 1, 1) := by decide +kernel
theorem dX7_cross_120 : decode cX7_cross 120 = .ok (.iconst 0, 1) := by decide +kernel
theorem dX7_cross_121 : decode cX7_cross 121 = .ok (.invokevirtual 43, 3) := by decide +kernel
theorem dX7_cross_124 : decode cX7_cross 124 = .ok (.isub, 1) := by decide +kernel
theorem dX7_cross_125 : decode cX7_cross 125 = .ok (.istore 8, 2) := by decide +kernel
theorem dX7_cross_127 : decode cX7_cross 127 = .ok (.aload_n 0, 1) := by decide +kernel
theorem dX7_cross_128 : decode cX7_cross 128 = .ok (.iload_n 2, 1) := by decide +kernel
theorem dX7_cross_129 : decode cX7_cross 129 = .ok (.iconst 1, 1) := by decide +kernel
theorem dX7_cross_130 : decode cX7_cross 130 = .ok (.invokevirtual 43, 3) := by decide +kernel
theorem dX7_cross_133 : decode cX7_cross 133 = .ok (.aload_n 0, 1) := by decide +kernel
theorem dX7_cross_134 : decode cX7_cross 134 = .ok (.iload_n 2, 1) := by decide +kernel
theorem dX7_cross_135 : decode cX7_cross 135 = .ok (.iconst 0, 1) := by decide +kernel
theorem dX7_cross_136 : decode cX7_cross 136 = .ok (.invokevirtual 43, 3) := by decide +kernel
theorem dX7_cross_139 : decode cX7_cross 139 = .ok (.isub, 1) := by decide +kernel
theorem dX7_cross_140 : decode cX7_cross 140 = .ok (.istore 9, 2) := by decide +kernel
theorem dX7_cross_142 : decode cX7_cross 142 = .ok (.aload_n 0, 1) := by decide +kernel
theorem dX7_cross_143 : decode cX7_cross 143 = .ok (.iload_n 1, 1) := by decide +kernel
theorem dX7_cross_144 : decode cX7_cross 144 = .ok (.iconst 2, 1) := by decide +kernel
theorem dX7_cross_145 : decode cX7_cross 145 = .ok (.invokevirtual 43, 3) := by decide +kernel
theorem dX7_cross_148 : decode cX7_cross 148 = .ok (.istore 10, 2) := by decide +kernel
theorem dX7_cross_150 : decode cX7_cross 150 = .ok (.aload_n 0, 1) := by decide +kernel
theorem dX7_cross_151 : decode cX7_cross 151 = .ok (.iload_n 2, 1) := by decide +kernel
theorem dX7_cross_152 : decode cX7_cross 152 = .ok (.iconst 2, 1) := by decide +kernel
theorem dX7_cross_153 : decode cX7_cross 153 = .ok (.invokevirtual 43, 3) := by decide +kernel
theorem dX7_cross_156 : decode cX7_cross 156 = .ok (.istore 11, 2) := by decide +kernel
theorem dX7_cross_158 : decode cX7_cross 158 = .ok (.aload_n 0, 1) := by decide +kernel
theorem dX7_cross_159 : decode cX7_cross 159 = .ok (.bipush 32, 2) := by decide +kernel
theorem dX7_cross_161 : decode cX7_cross 161 = .ok (.iload 4, 2) := by decide +kernel
theorem dX7_cross_163 : decode cX7_cross 163 = .ok (.invokestatic 63, 3) := by decide +kernel
theorem dX7_cross_166 : decode cX7_cross 166 = .ok (.imul, 1) := by decide +kernel
theorem dX7_cross_167 : decode cX7_cross 167 = .ok (.iload 4, 2) := by decide +kernel
theorem dX7_cross_169 : decode cX7_cross 169 = .ok (.invokestatic 63, 3) := by decide +kernel
theorem dX7_cross_172 : decode cX7_cross 172 = .ok (.iload 6, 2) := by decide +kernel
theorem dX7_cross_174 : decode cX7_cross 174 = .ok (.invokestatic 63, 3) := by decide +kernel
theorem dX7_cross_177 : decode cX7_cross 177 = .ok (.iadd, 1) := by decide +kernel
theorem dX7_cross_178 : decode cX7_cross 178 = .ok (.idiv, 1) := by decide +kernel
theorem dX7_cross_179 : decode cX7_cross 179 = .ok (.putfield 66, 3) := by decide +kernel
theorem dX7_cross_182 : decode cX7_cross 182 = .ok (.aload_n 0, 1) := by decide +kernel
theorem dX7_cross_183 : decode cX7_cross 183 = .ok (.bipush 32, 2) := by decide +kernel
theorem dX7_cross_185 : decode cX7_cross 185 = .ok (.iload_n 3, 1) := by decide +kernel
theorem dX7_cross_186 : decode cX7_cross 186 = .ok (.invokestatic 63, 3) := by decide +kernel
theorem dX7_cross_189 : decode cX7_cross 189 = .ok (.imul, 1) := by decide +kernel
theorem dX7_cross_190 : decode cX7_cross 190 = .ok (.iload_n 3, 1) := by decide +kernel
theorem dX7_cross_191 : decode cX7_cross 191 = .ok (.invokestatic 63, 3) := by decide +kernel
theorem dX7_cross_194 : decode cX7_cross 194 = .ok (.iload 5, 2) := by decide +kernel
theorem dX7_cross_196 : decode cX7_cross 196 = .ok (.invokestatic 63, 3) := by decide +kernel
theorem dX7_cross_199 : decode cX7_cross 199 = .ok (.iadd, 1) := by decide +kernel
theorem dX7_cross_200 : decode cX7_cross 200 = .ok (.idiv, 1) := by decide +kernel
theorem dX7_cross_201 : decode cX7_cross 201 = .ok (.putfield 69, 3) := by decide +kernel
theorem dX7_cross_204 : decode cX7_cross 204 = .ok (.aload_n 0, 1) := by decide +kernel
theorem dX7_cross_205 : decode cX7_cross 205 = .ok (.iload 8, 2) := by decide +kernel
theorem dX7_cross_207 : decode cX7_cross 207 = .ok (.iload 11, 2) := by decide +kernel
theorem dX7_cross_209 : decode cX7_cross 209 = .ok (.imul, 1) := by decide +kernel
theorem dX7_cross_210 : decode cX7_cross 210 = .ok (.iload 10, 2) := by decide +kernel
theorem dX7_cross_212 : decode cX7_cross 212 = .ok (.iload 9, 2) := by decide +kernel
theorem dX7_cross_214 : decode cX7_cross 214 = .ok (.imul, 1) := by decide +kernel
theorem dX7_cross_215 : decode cX7_cross 215 = .ok (.isub, 1) := by decide +kernel
theorem dX7_cross_216 : decode cX7_cross 216 = .ok (.invokestatic 63, 3) := by decide +kernel
theorem dX7_cross_219 : decode cX7_cross 219 = .ok (.iload 8, 2) := by decide +kernel
theorem dX7_cross_221 : decode cX7_cross 221 = .ok (.iload 9, 2) := by decide +kernel
theorem dX7_cross_223 : decode cX7_cross 223 = .ok (.imul, 1) := by decide +kernel
theorem dX7_cross_224 : decode cX7_cross 224 = .ok (.iload 10, 2) := by decide +kernel
theorem dX7_cross_226 : decode cX7_cross 226 = .ok (.iload 11, 2) := by decide +kernel
theorem dX7_cross_228 : decode cX7_cross 228 = .ok (.imul, 1) := by decide +kernel
theorem dX7_cross_229 : decode cX7_cross 229 = .ok (.iadd, 1) := by decide +kernel
theorem dX7_cross_230 : decode cX7_cross 230 = .ok (.invokestatic 63, 3) := by decide +kernel
theorem dX7_cross_233 : decode cX7_cross 233 = .ok (.if_icmp .lt 7, 3) := by decide +kernel
theorem dX7_cross_236 : decode cX7_cross 236 = .ok (.iconst 1, 1) := by decide +kernel
theorem dX7_cross_237 : decode cX7_cross 237 = .ok (.goto 4, 3) := by decide +kernel
theorem dX7_cross_240 : decode cX7_cross 240 = .ok (.iconst 0, 1) := by decide +kernel
theorem dX7_cross_241 : decode cX7_cross 241 = .ok (.putfield 72, 3) := by decide +kernel
theorem dX7_cross_244 : decode cX7_cross 244 = .ok (.iload 7, 2) := by decide +kernel
theorem dX7_cross_246 : decode cX7_cross 246 = .ok (.ireturn, 1) := by decide +kernel
theorem dX7_sliding_0 : decode cX7_sliding 0 = .ok (.iconst 1, 1) := by decide +kernel
theorem dX7_sliding_1 : decode cX7_sliding 1 = .ok (.aload_n 0, 1) := by decide +kernel
theorem dX7_sliding_2 : decode cX7_sliding 2 = .ok (.iload_n 1, 1) := by decide +kernel
theorem dX7_sliding_3 : decode cX7_sliding 3 = .ok (.iconst 3, 1) := by decide +kernel
theorem dX7_sliding_4 : decode cX7_sliding 4 = .ok (.invokevirtual 43, 3) := by decide +kernel
theorem dX7_sliding_7 : decode cX7_sliding 7 = .ok (.aload_n 0, 1) := by decide +kernel
theorem dX7_sliding_8 : decode cX7_sliding 8 = .ok (.iload_n 2, 1) := by decide +kernel
theorem dX7_sliding_9 : decode cX7_sliding 9 = .ok (.iconst 3, 1) := by decide +kernel
theorem dX7_sliding_10 : decode cX7_sliding 10 = .ok (.invokevirtual 43, 3) := by decide +kernel
theorem dX7_sliding_13 : decode cX7_sliding 13 = .ok (.isub, 1) := by decide +kernel
theorem dX7_sliding_14 : decode cX7_sliding 14 = .ok (.invokestatic 63, 3) := by decide +kernel
theorem dX7_sliding_17 : decode cX7_sliding 17 = .ok (.iadd, 1) := by decide +kernel
theorem dX7_sliding_18 : decode cX7_sliding 18 = .ok (.aload_n 0, 1) := by decide +kernel
theorem dX7_sliding_19 : decode cX7_sliding 19 = .ok (.iload_n 1, 1) := by decide +kernel
theorem dX7_sliding_20 : decode cX7_sliding 20 = .ok (.iconst 4, 1) := by decide +kernel
theorem dX7_sliding_21 : decode cX7_sliding 21 = .ok (.invokevirtual 43, 3) := by decide +kernel
theorem dX7_sliding_24 : decode cX7_sliding 24 = .ok (.aload_n 0, 1) := by decide +kernel
theorem dX7_sliding_25 : decode cX7_sliding 25 = .ok (.iload_n 2, 1) := by decide +kernel
theorem dX7_sliding_26 : decode cX7_sliding 26 = .ok (.iconst 4, 1) := by decide +kernel
theorem dX7_sliding_27 : decode cX7_sliding 27 = .ok (.invokevirtual 43, 3) := by decide +kernel
theorem dX7_sliding_30 : decode cX7_sliding 30 = .ok (.isub, 1) := by decide +kernel
theorem dX7_sliding_31 : decode cX7_sliding 31 = .ok (.invokestatic 63, 3) := by decide +kernel
theorem dX7_sliding_34 : decode cX7_sliding 34 = .ok (.iadd, 1) := by decide +kernel
theorem dX7_sliding_35 : decode cX7_sliding 35 = .ok (.ireturn, 1) := by decide +kernel
theorem dX7_more_0 : decode cX7_more 0 = .ok (.aload_n 0, 1) := by decide +kernel
theorem dX7_more_1 : decode cX7_more 1 = .ok (.iload_n 2, 1) := by decide +kernel
theorem dX7_more_2 : decode cX7_more 2 = .ok (.iconst 5, 1) := by decide +kernel
theorem dX7_more_3 : decode cX7_more 3 = .ok (.invokevirtual 43, 3) := by decide +kernel
theorem dX7_more_6 : decode cX7_more 6 = .ok (.aload_n 0, 1) := by decide +kernel
theorem dX7_more_7 : decode cX7_more 7 = .ok (.iload_n 1, 1) := by decide +kernel
theorem dX7_more_8 : decode cX7_more 8 = .ok (.iload_n 2, 1) := by decide +kernel
theorem dX7_more_9 : decode cX7_more 9 = .ok (.invokevirtual 76, 3) := by decide +kernel
theorem dX7_more_12 : decode cX7_more 12 = .ok (.imul, 1) := by decide +kernel
theorem dX7_more_13 : decode cX7_more 13 = .ok (.aload_n 0, 1) := by decide +kernel
theorem dX7_more_14 : decode cX7_more 14 = .ok (.getfield 72, 3) := by decide +kernel
theorem dX7_more_17 : decode cX7_more 17 = .ok (.ifCond .eq 7, 3) := by decide +kernel
theorem dX7_more_20 : decode cX7_more 20 = .ok (.iconst 2, 1) := by decide +kernel
theorem dX7_more_21 : decode cX7_more 21 = .ok (.goto 4, 3) := by decide +kernel
theorem dX7_more_24 : decode cX7_more 24 = .ok (.iconst 1, 1) := by decide +kernel
theorem dX7_more_25 : decode cX7_more 25 = .ok (.imul, 1) := by decide +kernel
theorem dX7_more_26 : decode cX7_more 26 = .ok (.ireturn, 1) := by decide +kernel
theorem dX7_crossingsMany_0 : decode cX7_crossingsMany 0 = .ok (.iconst 0, 1) := by decide +kernel
theorem dX7_crossingsMany_1 : decode cX7_crossingsMany 1 = .ok (.istore_n 1, 1) := by decide +kernel
theorem dX7_crossingsMany_2 : decode cX7_crossingsMany 2 = .ok (.iconst 0, 1) := by decide +kernel
theorem dX7_crossingsMany_3 : decode cX7_crossingsMany 3 = .ok (.istore_n 2, 1) := by decide +kernel
theorem dX7_crossingsMany_4 : decode cX7_crossingsMany 4 = .ok (.iload_n 2, 1) := by decide +kernel
theorem dX7_crossingsMany_5 : decode cX7_crossingsMany 5 = .ok (.aload_n 0, 1) := by decide +kernel
theorem dX7_crossingsMany_6 : decode cX7_crossingsMany 6 = .ok (.getfield 7, 3) := by decide +kernel
theorem dX7_crossingsMany_9 : decode cX7_crossingsMany 9 = .ok (.iconst 0, 1) := by decide +kernel
theorem dX7_crossingsMany_10 : decode cX7_crossingsMany 10 = .ok (.iaload, 1) := by decide +kernel
theorem dX7_crossingsMany_11 : decode cX7_crossingsMany 11 = .ok (.if_icmp .ge 39, 3) := by decide +kernel
theorem dX7_crossingsMany_14 : decode cX7_crossingsMany 14 = .ok (.iconst 0, 1) := by decide +kernel
theorem dX7_crossingsMany_15 : decode cX7_crossingsMany 15 = .ok (.istore_n 3, 1) := by decide +kernel
theorem dX7_crossingsMany_16 : decode cX7_crossingsMany 16 = .ok (.iload_n 3, 1) := by decide +kernel
theorem dX7_crossingsMany_17 : decode cX7_crossingsMany 17 = .ok (.iload_n 2, 1) := by decide +kernel
theorem dX7_crossingsMany_18 : decode cX7_crossingsMany 18 = .ok (.if_icmp .ge 26, 3) := by decide +kernel
theorem dX7_crossingsMany_21 : decode cX7_crossingsMany 21 = .ok (.iload_n 1, 1) := by decide +kernel
theorem dX7_crossingsMany_22 : decode cX7_crossingsMany 22 = .ok (.aload_n 0, 1) := by decide +kernel
theorem dX7_crossingsMany_23 : decode cX7_crossingsMany 23 = .ok (.iload_n 2, 1) := by decide +kernel
theorem dX7_crossingsMany_24 : decode cX7_crossingsMany 24 = .ok (.iload_n 3, 1) := by decide +kernel
theorem dX7_crossingsMany_25 : decode cX7_crossingsMany 25 = .ok (.invokevirtual 79, 3) := by decide +kernel
theorem dX7_crossingsMany_28 : decode cX7_crossingsMany 28 = .ok (.ifCond .eq 7, 3) := by decide +kernel
theorem dX7_crossingsMany_31 : decode cX7_crossingsMany 31 = .ok (.iconst 1, 1) := by decide +kernel
theorem dX7_crossingsMany_32 : decode cX7_crossingsMany 32 = .ok (.goto 4, 3) := by decide +kernel
theorem dX7_crossingsMany_35 : decode cX7_crossingsMany 35 = .ok (.iconst 0, 1) := by decide +kernel
theorem dX7_crossingsMany_36 : decode cX7_crossingsMany 36 = .ok (.iadd, 1) := by decide +kernel
theorem dX7_crossingsMany_37 : decode cX7_crossingsMany 37 = .ok (.istore_n 1, 1) := by decide +kernel
theorem dX7_crossingsMany_38 : decode cX7_crossingsMany 38 = .ok (.iinc 3 1, 3) := by decide +kernel
theorem dX7_crossingsMany_41 : decode cX7_crossingsMany 41 = .ok (.goto (-25), 3) := by decide +kernel
theorem dX7_crossingsMany_44 : decode cX7_crossingsMany 44 = .ok (.iinc 2 1, 3) := by decide +kernel
theorem dX7_crossingsMany_47 : decode cX7_crossingsMany 47 = .ok (.goto (-43), 3) := by decide +kernel
theorem dX7_crossingsMany_50 : decode cX7_crossingsMany 50 = .ok (.iload_n 1, 1) := by decide +kernel
theorem dX7_crossingsMany_51 : decode cX7_crossingsMany 51 = .ok (.ireturn, 1) := by decide +kernel
theorem dX7_crossingOnes_0 : decode cX7_crossingOnes 0 = .ok (.iconst 0, 1) := by decide +kernel
theorem dX7_crossingOnes_1 : decode cX7_crossingOnes 1 = .ok (.istore_n 2, 1) := by decide +kernel
theorem dX7_crossingOnes_2 : decode cX7_crossingOnes 2 = .ok (.iconst 0, 1) := by decide +kernel
theorem dX7_crossingOnes_3 : decode cX7_crossingOnes 3 = .ok (.istore_n 3, 1) := by decide +kernel
theorem dX7_crossingOnes_4 : decode cX7_crossingOnes 4 = .ok (.iload_n 3, 1) := by decide +kernel
theorem dX7_crossingOnes_5 : decode cX7_crossingOnes 5 = .ok (.aload_n 0, 1) := by decide +kernel
theorem dX7_crossingOnes_6 : decode cX7_crossingOnes 6 = .ok (.getfield 7, 3) := by decide +kernel
theorem dX7_crossingOnes_9 : decode cX7_crossingOnes 9 = .ok (.iconst 0, 1) := by decide +kernel
theorem dX7_crossingOnes_10 : decode cX7_crossingOnes 10 = .ok (.iaload, 1) := by decide +kernel
theorem dX7_crossingOnes_11 : decode cX7_crossingOnes 11 = .ok (.if_icmp .ge 33, 3) := by decide +kernel
theorem dX7_crossingOnes_14 : decode cX7_crossingOnes 14 = .ok (.iload_n 2, 1) := by decide +kernel
theorem dX7_crossingOnes_15 : decode cX7_crossingOnes 15 = .ok (.iload_n 3, 1) := by decide +kernel
theorem dX7_crossingOnes_16 : decode cX7_crossingOnes 16 = .ok (.iload_n 1, 1) := by decide +kernel
theorem dX7_crossingOnes_17 : decode cX7_crossingOnes 17 = .ok (.if_icmp .eq 18, 3) := by decide +kernel
theorem dX7_crossingOnes_20 : decode cX7_crossingOnes 20 = .ok (.aload_n 0, 1) := by decide +kernel
theorem dX7_crossingOnes_21 : decode cX7_crossingOnes 21 = .ok (.iload_n 1, 1) := by decide +kernel
theorem dX7_crossingOnes_22 : decode cX7_crossingOnes 22 = .ok (.iload_n 3, 1) := by decide +kernel
theorem dX7_crossingOnes_23 : decode cX7_crossingOnes 23 = .ok (.invokevirtual 79, 3) := by decide +kernel
theorem dX7_crossingOnes_26 : decode cX7_crossingOnes 26 = .ok (.ifCond .eq 9, 3) := by decide +kernel
theorem dX7_crossingOnes_29 : decode cX7_crossingOnes 29 = .ok (.iconst 1, 1) := by decide +kernel
theorem dX7_crossingOnes_30 : decode cX7_crossingOnes 30 = .ok (.iload_n 3, 1) := by decide +kernel
theorem dX7_crossingOnes_31 : decode cX7_crossingOnes 31 = .ok (.ishl, 1) := by decide +kernel
theorem dX7_crossingOnes_32 : decode cX7_crossingOnes 32 = .ok (.goto 4, 3) := by decide +kernel
theorem dX7_crossingOnes_35 : decode cX7_crossingOnes 35 = .ok (.iconst 0, 1) := by decide +kernel
theorem dX7_crossingOnes_36 : decode cX7_crossingOnes 36 = .ok (.ior, 1) := by decide +kernel
theorem dX7_crossingOnes_37 : decode cX7_crossingOnes 37 = .ok (.istore_n 2, 1) := by decide +kernel
theorem dX7_crossingOnes_38 : decode cX7_crossingOnes 38 = .ok (.iinc 3 1, 3) := by decide +kernel
theorem dX7_crossingOnes_41 : decode cX7_crossingOnes 41 = .ok (.goto (-37), 3) := by decide +kernel
theorem dX7_crossingOnes_44 : decode cX7_crossingOnes 44 = .ok (.iload_n 2, 1) := by decide +kernel
theorem dX7_crossingOnes_45 : decode cX7_crossingOnes 45 = .ok (.ireturn, 1) := by decide +kernel
theorem dX7_flyOn_0 : decode cX7_flyOn 0 = .ok (.aload_n 0, 1) := by decide +kernel
theorem dX7_flyOn_1 : decode cX7_flyOn 1 = .ok (.iload_n 1, 1) := by decide +kernel
theorem dX7_flyOn_2 : decode cX7_flyOn 2 = .ok (.iconst 1, 1) := by decide +kernel
theorem dX7_flyOn_3 : decode cX7_flyOn 3 = .ok (.invokevirtual 43, 3) := by decide +kernel
theorem dX7_flyOn_6 : decode cX7_flyOn 6 = .ok (.aload_n 0, 1) := by decide +kernel
theorem dX7_flyOn_7 : decode cX7_flyOn 7 = .ok (.iload_n 1, 1) := by decide +kernel
theorem dX7_flyOn_8 : decode cX7_flyOn 8 = .ok (.iconst 3, 1) := by decide +kernel
theorem dX7_flyOn_9 : decode cX7_flyOn 9 = .ok (.invokevirtual 43, 3) := by decide +kernel
theorem dX7_flyOn_12 : decode cX7_flyOn 12 = .ok (.iadd, 1) := by decide +kernel
theorem dX7_flyOn_13 : decode cX7_flyOn 13 = .ok (.istore_n 2, 1) := by decide +kernel
theorem dX7_flyOn_14 : decode cX7_flyOn 14 = .ok (.aload_n 0, 1) := by decide +kernel
theorem dX7_flyOn_15 : decode cX7_flyOn 15 = .ok (.iload_n 1, 1) := by decide +kernel
theorem dX7_flyOn_16 : decode cX7_flyOn 16 = .ok (.iconst 2, 1) := by decide +kernel
theorem dX7_flyOn_17 : decode cX7_flyOn 17 = .ok (.invokevirtual 43, 3) := by decide +kernel
theorem dX7_flyOn_20 : decode cX7_flyOn 20 = .ok (.aload_n 0, 1) := by decide +kernel
theorem dX7_flyOn_21 : decode cX7_flyOn 21 = .ok (.iload_n 1, 1) := by decide +kernel
theorem dX7_flyOn_22 : decode cX7_flyOn 22 = .ok (.iconst 4, 1) := by decide +kernel
theorem dX7_flyOn_23 : decode cX7_flyOn 23 = .ok (.invokevirtual 43, 3) := by decide +kernel
theorem dX7_flyOn_26 : decode cX7_flyOn 26 = .ok (.iadd, 1) := by decide +kernel
theorem dX7_flyOn_27 : decode cX7_flyOn 27 = .ok (.istore_n 3, 1) := by decide +kernel
theorem dX7_flyOn_28 : decode cX7_flyOn 28 = .ok (.iload_n 2, 1) := by decide +kernel
theorem dX7_flyOn_29 : decode cX7_flyOn 29 = .ok (.iconst 0, 1) := by decide +kernel
theorem dX7_flyOn_30 : decode cX7_flyOn 30 = .ok (.bipush 63, 2) := by decide +kernel
theorem dX7_flyOn_32 : decode cX7_flyOn 32 = .ok (.invokestatic 39, 3) := by decide +kernel
theorem dX7_flyOn_35 : decode cX7_flyOn 35 = .ok (.ifCond .eq 13, 3) := by decide +kernel
theorem dX7_flyOn_38 : decode cX7_flyOn 38 = .ok (.aload_n 0, 1) := by decide +kernel
theorem dX7_flyOn_39 : decode cX7_flyOn 39 = .ok (.iload_n 1, 1) := by decide +kernel
theorem dX7_flyOn_40 : decode cX7_flyOn 40 = .ok (.iconst 1, 1) := by decide +kernel
theorem dX7_flyOn_41 : decode cX7_flyOn 41 = .ok (.iload_n 2, 1) := by decide +kernel
theorem dX7_flyOn_42 : decode cX7_flyOn 42 = .ok (.invokevirtual 82, 3) := by decide +kernel
theorem dX7_flyOn_45 : decode cX7_flyOn 45 = .ok (.goto 16, 3) := by decide +kernel
theorem dX7_flyOn_48 : decode cX7_flyOn 48 = .ok (.aload_n 0, 1) := by decide +kernel
theorem dX7_flyOn_49 : decode cX7_flyOn 49 = .ok (.iload_n 1, 1) := by decide +kernel
theorem dX7_flyOn_50 : decode cX7_flyOn 50 = .ok (.iconst 3, 1) := by decide +kernel
theorem dX7_flyOn_51 : decode cX7_flyOn 51 = .ok (.aload_n 0, 1) := by decide +kernel
theorem dX7_flyOn_52 : decode cX7_flyOn 52 = .ok (.iload_n 1, 1) := by decide +kernel
theorem dX7_flyOn_53 : decode cX7_flyOn 53 = .ok (.iconst 3, 1) := by decide +kernel
theorem dX7_flyOn_54 : decode cX7_flyOn 54 = .ok (.invokevirtual 43, 3) := by decide +kernel
theorem dX7_flyOn_57 : decode cX7_flyOn 57 = .ok (.ineg, 1) := by decide +kernel
theorem dX7_flyOn_58 : decode cX7_flyOn 58 = .ok (.invokevirtual 82, 3) := by decide +kernel
theorem dX7_flyOn_61 : decode cX7_flyOn 61 = .ok (.iload_n 3, 1) := by decide +kernel
theorem dX7_flyOn_62 : decode cX7_flyOn 62 = .ok (.iconst 1, 1) := by decide +kernel
theorem dX7_flyOn_63 : decode cX7_flyOn 63 = .ok (.bipush 47, 2) := by decide +kernel
theorem dX7_flyOn_65 : decode cX7_flyOn 65 = .ok (.invokestatic 39, 3) := by decide +kernel
theorem dX7_flyOn_68 : decode cX7_flyOn 68 = .ok (.ifCond .eq 13, 3) := by decide +kernel
theorem dX7_flyOn_71 : decode cX7_flyOn 71 = .ok (.aload_n 0, 1) := by decide +kernel
theorem dX7_flyOn_72 : decode cX7_flyOn 72 = .ok (.iload_n 1, 1) := by decide +kernel
theorem dX7_flyOn_73 : decode cX7_flyOn 73 = .ok (.iconst 2, 1) := by decide +kernel
theorem dX7_flyOn_74 : decode cX7_flyOn 74 = .ok (.iload_n 3, 1) := by decide +kernel
theorem dX7_flyOn_75 : decode cX7_flyOn 75 = .ok (.invokevirtual 82, 3) := by decide +kernel
theorem dX7_flyOn_78 : decode cX7_flyOn 78 = .ok (.goto 16, 3) := by decide +kernel
theorem dX7_flyOn_81 : decode cX7_flyOn 81 = .ok (.aload_n 0, 1) := by decide +kernel
theorem dX7_flyOn_82 : decode cX7_flyOn 82 = .ok (.iload_n 1, 1) := by decide +kernel
theorem dX7_flyOn_83 : decode cX7_flyOn 83 = .ok (.iconst 4, 1) := by decide +kernel
theorem dX7_flyOn_84 : decode cX7_flyOn 84 = .ok (.aload_n 0, 1) := by decide +kernel
theorem dX7_flyOn_85 : decode cX7_flyOn 85 = .ok (.iload_n 1, 1) := by decide +kernel
theorem dX7_flyOn_86 : decode cX7_flyOn 86 = .ok (.iconst 4, 1) := by decide +kernel
theorem dX7_flyOn_87 : decode cX7_flyOn 87 = .ok (.invokevirtual 43, 3) := by decide +kernel
theorem dX7_flyOn_90 : decode cX7_flyOn 90 = .ok (.ineg, 1) := by decide +kernel
theorem dX7_flyOn_91 : decode cX7_flyOn 91 = .ok (.invokevirtual 82, 3) := by decide +kernel
theorem dX7_flyOn_94 : decode cX7_flyOn 94 = .ok (.return_, 1) := by decide +kernel
theorem dX7_wearOut_0 : decode cX7_wearOut 0 = .ok (.iconst 0, 1) := by decide +kernel
theorem dX7_wearOut_1 : decode cX7_wearOut 1 = .ok (.istore_n 1, 1) := by decide +kernel
theorem dX7_wearOut_2 : decode cX7_wearOut 2 = .ok (.iload_n 1, 1) := by decide +kernel
theorem dX7_wearOut_3 : decode cX7_wearOut 3 = .ok (.aload_n 0, 1) := by decide +kernel
theorem dX7_wearOut_4 : decode cX7_wearOut 4 = .ok (.getfield 7, 3) := by decide +kernel
theorem dX7_wearOut_7 : decode cX7_wearOut 7 = .ok (.iconst 0, 1) := by decide +kernel
theorem dX7_wearOut_8 : decode cX7_wearOut 8 = .ok (.iaload, 1) := by decide +kernel
theorem dX7_wearOut_9 : decode cX7_wearOut 9 = .ok (.if_icmp .ge 100, 3) := by decide +kernel
theorem dX7_wearOut_12 : decode cX7_wearOut 12 = .ok (.iconst 0, 1) := by decide +kernel
theorem dX7_wearOut_13 : decode cX7_wearOut 13 = .ok (.istore_n 2, 1) := by decide +kernel
theorem dX7_wearOut_14 : decode cX7_wearOut 14 = .ok (.iload_n 2, 1) := by decide +kernel
theorem dX7_wearOut_15 : decode cX7_wearOut 15 = .ok (.aload_n 0, 1) := by decide +kernel
theorem dX7_wearOut_16 : decode cX7_wearOut 16 = .ok (.getfield 7, 3) := by decide +kernel
theorem dX7_wearOut_19 : decode cX7_wearOut 19 = .ok (.iconst 0, 1) := by decide +kernel
theorem dX7_wearOut_20 : decode cX7_wearOut 20 = .ok (.iaload, 1) := by decide +kernel
theorem dX7_wearOut_21 : decode cX7_wearOut 21 = .ok (.if_icmp .ge 82, 3) := by decide +kernel
theorem dX7_wearOut_24 : decode cX7_wearOut 24 = .ok (.aload_n 0, 1) := by decide +kernel
theorem dX7_wearOut_25 : decode cX7_wearOut 25 = .ok (.getfield 28, 3) := by decide +kernel
theorem dX7_wearOut_28 : decode cX7_wearOut 28 = .ok (.bipush 6, 2) := by decide +kernel
theorem dX7_wearOut_30 : decode cX7_wearOut 30 = .ok (.iload_n 1, 1) := by decide +kernel
theorem dX7_wearOut_31 : decode cX7_wearOut 31 = .ok (.imul, 1) := by decide +kernel
theorem dX7_wearOut_32 : decode cX7_wearOut 32 = .ok (.iload_n 2, 1) := by decide +kernel
theorem dX7_wearOut_33 : decode cX7_wearOut 33 = .ok (.iadd, 1) := by decide +kernel
theorem dX7_wearOut_34 : decode cX7_wearOut 34 = .ok (.bipush (-6), 2) := by decide +kernel
theorem dX7_wearOut_36 : decode cX7_wearOut 36 = .ok (.iastore, 1) := by decide +kernel
theorem dX7_wearOut_37 : decode cX7_wearOut 37 = .ok (.iload_n 1, 1) := by decide +kernel
theorem dX7_wearOut_38 : decode cX7_wearOut 38 = .ok (.iload_n 2, 1) := by decide +kernel
theorem dX7_wearOut_39 : decode cX7_wearOut 39 = .ok (.if_icmp .eq 58, 3) := by decide +kernel
theorem dX7_wearOut_42 : decode cX7_wearOut 42 = .ok (.aload_n 0, 1) := by decide +kernel
theorem dX7_wearOut_43 : decode cX7_wearOut 43 = .ok (.iload_n 1, 1) := by decide +kernel
theorem dX7_wearOut_44 : decode cX7_wearOut 44 = .ok (.iload_n 2, 1) := by decide +kernel
theorem dX7_wearOut_45 : decode cX7_wearOut 45 = .ok (.invokevirtual 79, 3) := by decide +kernel
theorem dX7_wearOut_48 : decode cX7_wearOut 48 = .ok (.ifCond .eq 49, 3) := by decide +kernel
theorem dX7_wearOut_51 : decode cX7_wearOut 51 = .ok (.aload_n 0, 1) := by decide +kernel
theorem dX7_wearOut_52 : decode cX7_wearOut 52 = .ok (.getfield 28, 3) := by decide +kernel
theorem dX7_wearOut_55 : decode cX7_wearOut 55 = .ok (.bipush 6, 2) := by decide +kernel
theorem dX7_wearOut_57 : decode cX7_wearOut 57 = .ok (.iload_n 1, 1) := by decide +kernel
theorem dX7_wearOut_58 : decode cX7_wearOut 58 = .ok (.imul, 1) := by decide +kernel
theorem dX7_wearOut_59 : decode cX7_wearOut 59 = .ok (.iload_n 2, 1) := by decide +kernel
theorem dX7_wearOut_60 : decode cX7_wearOut 60 = .ok (.iadd, 1) := by decide +kernel
theorem dX7_wearOut_61 : decode cX7_wearOut 61 = .ok (.aload_n 0, 1) := by decide +kernel
theorem dX7_wearOut_62 : decode cX7_wearOut 62 = .ok (.getfield 66, 3) := by decide +kernel
theorem dX7_wearOut_65 : decode cX7_wearOut 65 = .ok (.iastore, 1) := by decide +kernel
theorem dX7_wearOut_66 : decode cX7_wearOut 66 = .ok (.aload_n 0, 1) := by decide +kernel
theorem dX7_wearOut_67 : decode cX7_wearOut 67 = .ok (.iload_n 1, 1) := by decide +kernel
theorem dX7_wearOut_68 : decode cX7_wearOut 68 = .ok (.bipush 12, 2) := by decide +kernel
theorem dX7_wearOut_70 : decode cX7_wearOut 70 = .ok (.aload_n 0, 1) := by decide +kernel
theorem dX7_wearOut_71 : decode cX7_wearOut 71 = .ok (.getfield 66, 3) := by decide +kernel
theorem dX7_wearOut_74 : decode cX7_wearOut 74 = .ok (.iadd, 1) := by decide +kernel
theorem dX7_wearOut_75 : decode cX7_wearOut 75 = .ok (.aload_n 0, 1) := by decide +kernel
theorem dX7_wearOut_76 : decode cX7_wearOut 76 = .ok (.iload_n 1, 1) := by decide +kernel
theorem dX7_wearOut_77 : decode cX7_wearOut 77 = .ok (.bipush 12, 2) := by decide +kernel
theorem dX7_wearOut_79 : decode cX7_wearOut 79 = .ok (.aload_n 0, 1) := by decide +kernel
theorem dX7_wearOut_80 : decode cX7_wearOut 80 = .ok (.getfield 66, 3) := by decide +kernel
theorem dX7_wearOut_83 : decode cX7_wearOut 83 = .ok (.iadd, 1) := by decide +kernel
theorem dX7_wearOut_84 : decode cX7_wearOut 84 = .ok (.invokevirtual 43, 3) := by decide +kernel
theorem dX7_wearOut_87 : decode cX7_wearOut 87 = .ok (.aload_n 0, 1) := by decide +kernel
theorem dX7_wearOut_88 : decode cX7_wearOut 88 = .ok (.iload_n 1, 1) := by decide +kernel
theorem dX7_wearOut_89 : decode cX7_wearOut 89 = .ok (.iload_n 2, 1) := by decide +kernel
theorem dX7_wearOut_90 : decode cX7_wearOut 90 = .ok (.invokevirtual 86, 3) := by decide +kernel
theorem dX7_wearOut_93 : decode cX7_wearOut 93 = .ok (.iadd, 1) := by decide +kernel
theorem dX7_wearOut_94 : decode cX7_wearOut 94 = .ok (.invokevirtual 82, 3) := by decide +kernel
theorem dX7_wearOut_97 : decode cX7_wearOut 97 = .ok (.iinc 2 1, 3) := by decide +kernel
theorem dX7_wearOut_100 : decode cX7_wearOut 100 = .ok (.goto (-86), 3) := by decide +kernel
theorem dX7_wearOut_103 : decode cX7_wearOut 103 = .ok (.iinc 1 1, 3) := by decide +kernel
theorem dX7_wearOut_106 : decode cX7_wearOut 106 = .ok (.goto (-104), 3) := by decide +kernel
theorem dX7_wearOut_109 : decode cX7_wearOut 109 = .ok (.return_, 1) := by decide +kernel
theorem dX7_isWornAt_0 : decode cX7_isWornAt 0 = .ok (.aload_n 0, 1) := by decide +kernel
theorem dX7_isWornAt_1 : decode cX7_isWornAt 1 = .ok (.iload_n 1, 1) := by decide +kernel
theorem dX7_isWornAt_2 : decode cX7_isWornAt 2 = .ok (.bipush 12, 2) := by decide +kernel
theorem dX7_isWornAt_4 : decode cX7_isWornAt 4 = .ok (.iload_n 2, 1) := by decide +kernel
theorem dX7_isWornAt_5 : decode cX7_isWornAt 5 = .ok (.iadd, 1) := by decide +kernel
theorem dX7_isWornAt_6 : decode cX7_isWornAt 6 = .ok (.invokevirtual 43, 3) := by decide +kernel
theorem dX7_isWornAt_9 : decode cX7_isWornAt 9 = .ok (.aload_n 0, 1) := by decide +kernel
theorem dX7_isWornAt_10 : decode cX7_isWornAt 10 = .ok (.iload_n 1, 1) := by decide +kernel
theorem dX7_isWornAt_11 : decode cX7_isWornAt 11 = .ok (.bipush 6, 2) := by decide +kernel
theorem dX7_isWornAt_13 : decode cX7_isWornAt 13 = .ok (.invokevirtual 43, 3) := by decide +kernel
theorem dX7_isWornAt_16 : decode cX7_isWornAt 16 = .ok (.if_icmp .lt 7, 3) := by decide +kernel
theorem dX7_isWornAt_19 : decode cX7_isWornAt 19 = .ok (.iconst 1, 1) := by decide +kernel
theorem dX7_isWornAt_20 : decode cX7_isWornAt 20 = .ok (.goto 4, 3) := by decide +kernel
theorem dX7_isWornAt_23 : decode cX7_isWornAt 23 = .ok (.iconst 0, 1) := by decide +kernel
theorem dX7_isWornAt_24 : decode cX7_isWornAt 24 = .ok (.ireturn, 1) := by decide +kernel
theorem dX7_cutThrough_0 : decode cX7_cutThrough 0 = .ok (.aload_n 0, 1) := by decide +kernel
theorem dX7_cutThrough_1 : decode cX7_cutThrough 1 = .ok (.iconst 0, 1) := by decide +kernel
theorem dX7_cutThrough_2 : decode cX7_cutThrough 2 = .ok (.putfield 89, 3) := by decide +kernel
theorem dX7_cutThrough_5 : decode cX7_cutThrough 5 = .ok (.aload_n 0, 1) := by decide +kernel
theorem dX7_cutThrough_6 : decode cX7_cutThrough 6 = .ok (.iconst 0, 1) := by decide +kernel
theorem dX7_cutThrough_7 : decode cX7_cutThrough 7 = .ok (.putfield 92, 3) := by decide +kernel
theorem dX7_cutThrough_10 : decode cX7_cutThrough 10 = .ok (.iconst 0, 1) := by decide +kernel
theorem dX7_cutThrough_11 : decode cX7_cutThrough 11 = .ok (.istore_n 1, 1) := by decide +kernel
theorem dX7_cutThrough_12 : decode cX7_cutThrough 12 = .ok (.iload_n 1, 1) := by decide +kernel
theorem dX7_cutThrough_13 : decode cX7_cutThrough 13 = .ok (.aload_n 0, 1) := by decide +kernel
theorem dX7_cutThrough_14 : decode cX7_cutThrough 14 = .ok (.getfield 7, 3) := by decide +kernel
theorem dX7_cutThrough_17 : decode cX7_cutThrough 17 = .ok (.iconst 0, 1) := by decide +kernel
theorem dX7_cutThrough_18 : decode cX7_cutThrough 18 = .ok (.iaload, 1) := by decide +kernel
theorem dX7_cutThrough_19 : decode cX7_cutThrough 19 = .ok (.if_icmp .ge 48, 3) := by decide +kernel
theorem dX7_cutThrough_22 : decode cX7_cutThrough 22 = .ok (.aload_n 0, 1) := by decide +kernel
theorem dX7_cutThrough_23 : decode cX7_cutThrough 23 = .ok (.dup, 1) := by decide +kernel
theorem dX7_cutThrough_24 : decode cX7_cutThrough 24 = .ok (.getfield 89, 3) := by decide +kernel
theorem dX7_cutThrough_27 : decode cX7_cutThrough 27 = .ok (.aload_n 0, 1) := by decide +kernel
theorem dX7_cutThrough_28 : decode cX7_cutThrough 28 = .ok (.iload_n 1, 1) := by decide +kernel
theorem dX7_cutThrough_29 : decode cX7_cutThrough 29 = .ok (.invokevirtual 55, 3) := by decide +kernel
theorem dX7_cutThrough_32 : decode cX7_cutThrough 32 = .ok (.ifCond .eq 24, 3) := by decide +kernel
theorem dX7_cutThrough_35 : decode cX7_cutThrough 35 = .ok (.aload_n 0, 1) := by decide +kernel
theorem dX7_cutThrough_36 : decode cX7_cutThrough 36 = .ok (.iload_n 1, 1) := by decide +kernel
theorem dX7_cutThrough_37 : decode cX7_cutThrough 37 = .ok (.invokevirtual 47, 3) := by decide +kernel
theorem dX7_cutThrough_40 : decode cX7_cutThrough 40 = .ok (.aload_n 0, 1) := by decide +kernel
theorem dX7_cutThrough_41 : decode cX7_cutThrough 41 = .ok (.iload_n 1, 1) := by decide +kernel
theorem dX7_cutThrough_42 : decode cX7_cutThrough 42 = .ok (.bipush 6, 2) := by decide +kernel
theorem dX7_cutThrough_44 : decode cX7_cutThrough 44 = .ok (.invokevirtual 43, 3) := by decide +kernel
theorem dX7_cutThrough_47 : decode cX7_cutThrough 47 = .ok (.if_icmp .lt 9, 3) := by decide +kernel
theorem dX7_cutThrough_50 : decode cX7_cutThrough 50 = .ok (.iconst 1, 1) := by decide +kernel
theorem dX7_cutThrough_51 : decode cX7_cutThrough 51 = .ok (.iload_n 1, 1) := by decide +kernel
theorem dX7_cutThrough_52 : decode cX7_cutThrough 52 = .ok (.ishl, 1) := by decide +kernel
theorem dX7_cutThrough_53 : decode cX7_cutThrough 53 = .ok (.goto 4, 3) := by decide +kernel
theorem dX7_cutThrough_56 : decode cX7_cutThrough 56 = .ok (.iconst 0, 1) := by decide +kernel
theorem dX7_cutThrough_57 : decode cX7_cutThrough 57 = .ok (.ior, 1) := by decide +kernel
theorem dX7_cutThrough_58 : decode cX7_cutThrough 58 = .ok (.putfield 89, 3) := by decide +kernel
theorem dX7_cutThrough_61 : decode cX7_cutThrough 61 = .ok (.iinc 1 1, 3) := by decide +kernel
theorem dX7_cutThrough_64 : decode cX7_cutThrough 64 = .ok (.goto (-52), 3) := by decide +kernel
theorem dX7_cutThrough_67 : decode cX7_cutThrough 67 = .ok (.iconst 0, 1) := by decide +kernel
theorem dX7_cutThrough_68 : decode cX7_cutThrough 68 = .ok (.istore_n 1, 1) := by decide +kernel
theorem dX7_cutThrough_69 : decode cX7_cutThrough 69 = .ok (.iload_n 1, 1) := by decide +kernel
theorem dX7_cutThrough_70 : decode cX7_cutThrough 70 = .ok (.aload_n 0, 1) := by decide +kernel
theorem dX7_cutThrough_71 : decode cX7_cutThrough 71 = .ok (.getfield 7, 3) := by decide +kernel
theorem dX7_cutThrough_74 : decode cX7_cutThrough 74 = .ok (.iconst 0, 1) := by decide +kernel
theorem dX7_cutThrough_75 : decode cX7_cutThrough 75 = .ok (.iaload, 1) := by decide +kernel
theorem dX7_cutThrough_76 : decode cX7_cutThrough 76 = .ok (.if_icmp .ge 94, 3) := by decide +kernel
theorem dX7_cutThrough_79 : decode cX7_cutThrough 79 = .ok (.iconst 0, 1) := by decide +kernel
theorem dX7_cutThrough_80 : decode cX7_cutThrough 80 = .ok (.istore_n 2, 1) := by decide +kernel
theorem dX7_cutThrough_81 : decode cX7_cutThrough 81 = .ok (.iload_n 2, 1) := by decide +kernel
theorem dX7_cutThrough_82 : decode cX7_cutThrough 82 = .ok (.aload_n 0, 1) := by decide +kernel
theorem dX7_cutThrough_83 : decode cX7_cutThrough 83 = .ok (.getfield 7, 3) := by decide +kernel
theorem dX7_cutThrough_86 : decode cX7_cutThrough 86 = .ok (.iconst 0, 1) := by decide +kernel
theorem dX7_cutThrough_87 : decode cX7_cutThrough 87 = .ok (.iaload, 1) := by decide +kernel
theorem dX7_cutThrough_88 : decode cX7_cutThrough 88 = .ok (.if_icmp .ge 76, 3) := by decide +kernel
theorem dX7_cutThrough_91 : decode cX7_cutThrough 91 = .ok (.aload_n 0, 1) := by decide +kernel
theorem dX7_cutThrough_92 : decode cX7_cutThrough 92 = .ok (.getfield 28, 3) := by decide +kernel
theorem dX7_cutThrough_95 : decode cX7_cutThrough 95 = .ok (.bipush 6, 2) := by decide +kernel
theorem dX7_cutThrough_97 : decode cX7_cutThrough 97 = .ok (.iload_n 2, 1) := by decide +kernel
theorem dX7_cutThrough_98 : decode cX7_cutThrough 98 = .ok (.imul, 1) := by decide +kernel
theorem dX7_cutThrough_99 : decode cX7_cutThrough 99 = .ok (.iload_n 1, 1) := by decide +kernel
theorem dX7_cutThrough_100 : decode cX7_cutThrough 100 = .ok (.iadd, 1) := by decide +kernel
theorem dX7_cutThrough_101 : decode cX7_cutThrough 101 = .ok (.iaload, 1) := by decide +kernel
theorem dX7_cutThrough_102 : decode cX7_cutThrough 102 = .ok (.istore_n 3, 1) := by decide +kernel
theorem dX7_cutThrough_103 : decode cX7_cutThrough 103 = .ok (.iload_n 3, 1) := by decide +kernel
theorem dX7_cutThrough_104 : decode cX7_cutThrough 104 = .ok (.bipush (-6), 2) := by decide +kernel
theorem dX7_cutThrough_106 : decode cX7_cutThrough 106 = .ok (.if_icmp .eq 52, 3) := by decide +kernel
theorem dX7_cutThrough_109 : decode cX7_cutThrough 109 = .ok (.aload_n 0, 1) := by decide +kernel
theorem dX7_cutThrough_110 : decode cX7_cutThrough 110 = .ok (.getfield 89, 3) := by decide +kernel
theorem dX7_cutThrough_113 : decode cX7_cutThrough 113 = .ok (.iload_n 2, 1) := by decide +kernel
theorem dX7_cutThrough_114 : decode cX7_cutThrough 114 = .ok (.ishr, 1) := by decide +kernel
theorem dX7_cutThrough_115 : decode cX7_cutThrough 115 = .ok (.iconst 1, 1) := by decide +kernel
theorem dX7_cutThrough_116 : decode cX7_cutThrough 116 = .ok (.iand, 1) := by decide +kernel
theorem dX7_cutThrough_117 : decode cX7_cutThrough 117 = .ok (.iconst 1, 1) := by decide +kernel
theorem dX7_cutThrough_118 : decode cX7_cutThrough 118 = .ok (.if_icmp .ne 40, 3) := by decide +kernel
theorem dX7_cutThrough_121 : decode cX7_cutThrough 121 = .ok (.aload_n 0, 1) := by decide +kernel
theorem dX7_cutThrough_122 : decode cX7_cutThrough 122 = .ok (.iload_n 2, 1) := by decide +kernel
theorem dX7_cutThrough_123 : decode cX7_cutThrough 123 = .ok (.iload_n 3, 1) := by decide +kernel
theorem dX7_cutThrough_124 : decode cX7_cutThrough 124 = .ok (.invokevirtual 95, 3) := by decide +kernel
theorem dX7_cutThrough_127 : decode cX7_cutThrough 127 = .ok (.ifCond .eq 31, 3) := by decide +kernel
theorem dX7_cutThrough_130 : decode cX7_cutThrough 130 = .ok (.aload_n 0, 1) := by decide +kernel
theorem dX7_cutThrough_131 : decode cX7_cutThrough 131 = .ok (.iload_n 1, 1) := by decide +kernel
theorem dX7_cutThrough_132 : decode cX7_cutThrough 132 = .ok (.bipush 7, 2) := by decide +kernel
theorem dX7_cutThrough_134 : decode cX7_cutThrough 134 = .ok (.aload_n 0, 1) := by decide +kernel
theorem dX7_cutThrough_135 : decode cX7_cutThrough 135 = .ok (.iload_n 1, 1) := by decide +kernel
theorem dX7_cutThrough_136 : decode cX7_cutThrough 136 = .ok (.bipush 7, 2) := by decide +kernel
theorem dX7_cutThrough_138 : decode cX7_cutThrough 138 = .ok (.invokevirtual 43, 3) := by decide +kernel
theorem dX7_cutThrough_141 : decode cX7_cutThrough 141 = .ok (.iconst 1, 1) := by decide +kernel
theorem dX7_cutThrough_142 : decode cX7_cutThrough 142 = .ok (.iadd, 1) := by decide +kernel
theorem dX7_cutThrough_143 : decode cX7_cutThrough 143 = .ok (.invokevirtual 82, 3) := by decide +kernel
theorem dX7_cutThrough_146 : decode cX7_cutThrough 146 = .ok (.aload_n 0, 1) := by decide +kernel
theorem dX7_cutThrough_147 : decode cX7_cutThrough 147 = .ok (.dup, 1) := by decide +kernel
theorem dX7_cutThrough_148 : decode cX7_cutThrough 148 = .ok (.getfield 92, 3) := by decide +kernel
theorem dX7_cutThrough_151 : decode cX7_cutThrough 151 = .ok (.iconst 1, 1) := by decide +kernel
theorem dX7_cutThrough_152 : decode cX7_cutThrough 152 = .ok (.iload_n 1, 1) := by decide +kernel
theorem dX7_cutThrough_153 : decode cX7_cutThrough 153 = .ok (.ishl, 1) := by decide +kernel
theorem dX7_cutThrough_154 : decode cX7_cutThrough 154 = .ok (.ior, 1) := by decide +kernel
theorem dX7_cutThrough_155 : decode cX7_cutThrough 155 = .ok (.putfield 92, 3) := by decide +kernel
theorem dX7_cutThrough_158 : decode cX7_cutThrough 158 = .ok (.iinc 2 1, 3) := by decide +kernel
theorem dX7_cutThrough_161 : decode cX7_cutThrough 161 = .ok (.goto (-80), 3) := by decide +kernel
theorem dX7_cutThrough_164 : decode cX7_cutThrough 164 = .ok (.iinc 1 1, 3) := by decide +kernel
theorem dX7_cutThrough_167 : decode cX7_cutThrough 167 = .ok (.goto (-98), 3) := by decide +kernel
theorem dX7_cutThrough_170 : decode cX7_cutThrough 170 = .ok (.iconst 0, 1) := by decide +kernel
theorem dX7_cutThrough_171 : decode cX7_cutThrough 171 = .ok (.istore_n 1, 1) := by decide +kernel
theorem dX7_cutThrough_172 : decode cX7_cutThrough 172 = .ok (.iload_n 1, 1) := by decide +kernel
theorem dX7_cutThrough_173 : decode cX7_cutThrough 173 = .ok (.aload_n 0, 1) := by decide +kernel
theorem dX7_cutThrough_174 : decode cX7_cutThrough 174 = .ok (.getfield 7, 3) := by decide +kernel
theorem dX7_cutThrough_177 : decode cX7_cutThrough 177 = .ok (.iconst 0, 1) := by decide +kernel
theorem dX7_cutThrough_178 : decode cX7_cutThrough 178 = .ok (.iaload, 1) := by decide +kernel
theorem dX7_cutThrough_179 : decode cX7_cutThrough 179 = .ok (.if_icmp .ge 39, 3) := by decide +kernel
theorem dX7_cutThrough_182 : decode cX7_cutThrough 182 = .ok (.aload_n 0, 1) := by decide +kernel
theorem dX7_cutThrough_183 : decode cX7_cutThrough 183 = .ok (.getfield 89, 3) := by decide +kernel
theorem dX7_cutThrough_186 : decode cX7_cutThrough 186 = .ok (.iload_n 1, 1) := by decide +kernel
theorem dX7_cutThrough_187 : decode cX7_cutThrough 187 = .ok (.ishr, 1) := by decide +kernel
theorem dX7_cutThrough_188 : decode cX7_cutThrough 188 = .ok (.iconst 1, 1) := by decide +kernel
theorem dX7_cutThrough_189 : decode cX7_cutThrough 189 = .ok (.iand, 1) := by decide +kernel
theorem dX7_cutThrough_190 : decode cX7_cutThrough 190 = .ok (.iconst 1, 1) := by decide +kernel
theorem dX7_cutThrough_191 : decode cX7_cutThrough 191 = .ok (.if_icmp .ne 21, 3) := by decide +kernel
theorem dX7_cutThrough_194 : decode cX7_cutThrough 194 = .ok (.aload_n 0, 1) := by decide +kernel
theorem dX7_cutThrough_195 : decode cX7_cutThrough 195 = .ok (.iload_n 1, 1) := by decide +kernel
theorem dX7_cutThrough_196 : decode cX7_cutThrough 196 = .ok (.bipush 8, 2) := by decide +kernel
theorem dX7_cutThrough_198 : decode cX7_cutThrough 198 = .ok (.iconst 1, 1) := by decide +kernel
theorem dX7_cutThrough_199 : decode cX7_cutThrough 199 = .ok (.invokevirtual 82, 3) := by decide +kernel
theorem dX7_cutThrough_202 : decode cX7_cutThrough 202 = .ok (.aload_n 0, 1) := by decide +kernel
theorem dX7_cutThrough_203 : decode cX7_cutThrough 203 = .ok (.getfield 7, 3) := by decide +kernel
theorem dX7_cutThrough_206 : decode cX7_cutThrough 206 = .ok (.iconst 3, 1) := by decide +kernel
theorem dX7_cutThrough_207 : decode cX7_cutThrough 207 = .ok (.dup2, 1) := by decide +kernel
theorem dX7_cutThrough_208 : decode cX7_cutThrough 208 = .ok (.iaload, 1) := by decide +kernel
theorem dX7_cutThrough_209 : decode cX7_cutThrough 209 = .ok (.iconst 1, 1) := by decide +kernel
theorem dX7_cutThrough_210 : decode cX7_cutThrough 210 = .ok (.iadd, 1) := by decide +kernel
theorem dX7_cutThrough_211 : decode cX7_cutThrough 211 = .ok (.iastore, 1) := by decide +kernel
theorem dX7_cutThrough_212 : decode cX7_cutThrough 212 = .ok (.iinc 1 1, 3) := by decide +kernel
theorem dX7_cutThrough_215 : decode cX7_cutThrough 215 = .ok (.goto (-43), 3) := by decide +kernel
theorem dX7_cutThrough_218 : decode cX7_cutThrough 218 = .ok (.return_, 1) := by decide +kernel
theorem dX7_tick_0 : decode cX7_tick 0 = .ok (.iconst 0, 1) := by decide +kernel
theorem dX7_tick_1 : decode cX7_tick 1 = .ok (.istore_n 1, 1) := by decide +kernel
theorem dX7_tick_2 : decode cX7_tick 2 = .ok (.iload_n 1, 1) := by decide +kernel
theorem dX7_tick_3 : decode cX7_tick 3 = .ok (.aload_n 0, 1) := by decide +kernel
theorem dX7_tick_4 : decode cX7_tick 4 = .ok (.getfield 7, 3) := by decide +kernel
theorem dX7_tick_7 : decode cX7_tick 7 = .ok (.iconst 0, 1) := by decide +kernel
theorem dX7_tick_8 : decode cX7_tick 8 = .ok (.iaload, 1) := by decide +kernel
theorem dX7_tick_9 : decode cX7_tick 9 = .ok (.if_icmp .ge 22, 3) := by decide +kernel
theorem dX7_tick_12 : decode cX7_tick 12 = .ok (.aload_n 0, 1) := by decide +kernel
theorem dX7_tick_13 : decode cX7_tick 13 = .ok (.iload_n 1, 1) := by decide +kernel
theorem dX7_tick_14 : decode cX7_tick 14 = .ok (.invokevirtual 55, 3) := by decide +kernel
theorem dX7_tick_17 : decode cX7_tick 17 = .ok (.ifCond .eq 8, 3) := by decide +kernel
theorem dX7_tick_20 : decode cX7_tick 20 = .ok (.aload_n 0, 1) := by decide +kernel
theorem dX7_tick_21 : decode cX7_tick 21 = .ok (.iload_n 1, 1) := by decide +kernel
theorem dX7_tick_22 : decode cX7_tick 22 = .ok (.invokevirtual 98, 3) := by decide +kernel
theorem dX7_tick_25 : decode cX7_tick 25 = .ok (.iinc 1 1, 3) := by decide +kernel
theorem dX7_tick_28 : decode cX7_tick 28 = .ok (.goto (-26), 3) := by decide +kernel
theorem dX7_tick_31 : decode cX7_tick 31 = .ok (.aload_n 0, 1) := by decide +kernel
theorem dX7_tick_32 : decode cX7_tick 32 = .ok (.invokevirtual 102, 3) := by decide +kernel
theorem dX7_tick_35 : decode cX7_tick 35 = .ok (.aload_n 0, 1) := by decide +kernel
theorem dX7_tick_36 : decode cX7_tick 36 = .ok (.invokevirtual 105, 3) := by decide +kernel
theorem dX7_tick_39 : decode cX7_tick 39 = .ok (.aload_n 0, 1) := by decide +kernel
theorem dX7_tick_40 : decode cX7_tick 40 = .ok (.getfield 7, 3) := by decide +kernel
theorem dX7_tick_43 : decode cX7_tick 43 = .ok (.iconst 2, 1) := by decide +kernel
theorem dX7_tick_44 : decode cX7_tick 44 = .ok (.dup2, 1) := by decide +kernel
theorem dX7_tick_45 : decode cX7_tick 45 = .ok (.iaload, 1) := by decide +kernel
theorem dX7_tick_46 : decode cX7_tick 46 = .ok (.iconst 1, 1) := by decide +kernel
theorem dX7_tick_47 : decode cX7_tick 47 = .ok (.iadd, 1) := by decide +kernel
theorem dX7_tick_48 : decode cX7_tick 48 = .ok (.iastore, 1) := by decide +kernel
theorem dX7_tick_49 : decode cX7_tick 49 = .ok (.return_, 1) := by decide +kernel
theorem dX7_passes_0 : decode cX7_passes 0 = .ok (.iconst 0, 1) := by decide +kernel
theorem dX7_passes_1 : decode cX7_passes 1 = .ok (.istore_n 2, 1) := by decide +kernel
theorem dX7_passes_2 : decode cX7_passes 2 = .ok (.iconst 0, 1) := by decide +kernel
theorem dX7_passes_3 : decode cX7_passes 3 = .ok (.istore_n 3, 1) := by decide +kernel
theorem dX7_passes_4 : decode cX7_passes 4 = .ok (.iload_n 3, 1) := by decide +kernel
theorem dX7_passes_5 : decode cX7_passes 5 = .ok (.iload_n 1, 1) := by decide +kernel
theorem dX7_passes_6 : decode cX7_passes 6 = .ok (.if_icmp .ge 20, 3) := by decide +kernel
theorem dX7_passes_9 : decode cX7_passes 9 = .ok (.aload_n 0, 1) := by decide +kernel
theorem dX7_passes_10 : decode cX7_passes 10 = .ok (.invokevirtual 108, 3) := by decide +kernel
theorem dX7_passes_13 : decode cX7_passes 13 = .ok (.iload_n 2, 1) := by decide +kernel
theorem dX7_passes_14 : decode cX7_passes 14 = .ok (.aload_n 0, 1) := by decide +kernel
theorem dX7_passes_15 : decode cX7_passes 15 = .ok (.getfield 89, 3) := by decide +kernel
theorem dX7_passes_18 : decode cX7_passes 18 = .ok (.ior, 1) := by decide +kernel
theorem dX7_passes_19 : decode cX7_passes 19 = .ok (.istore_n 2, 1) := by decide +kernel
theorem dX7_passes_20 : decode cX7_passes 20 = .ok (.iinc 3 1, 3) := by decide +kernel
theorem dX7_passes_23 : decode cX7_passes 23 = .ok (.goto (-19), 3) := by decide +kernel
theorem dX7_passes_26 : decode cX7_passes 26 = .ok (.iload_n 2, 1) := by decide +kernel
theorem dX7_passes_27 : decode cX7_passes 27 = .ok (.ireturn, 1) := by decide +kernel
theorem dX7_launch_0 : decode cX7_launch 0 = .ok (.iload_n 1, 1) := by decide +kernel
theorem dX7_launch_1 : decode cX7_launch 1 = .ok (.iconst 0, 1) := by decide +kernel
theorem dX7_launch_2 : decode cX7_launch 2 = .ok (.bipush 63, 2) := by decide +kernel
theorem dX7_launch_4 : decode cX7_launch 4 = .ok (.invokestatic 39, 3) := by decide +kernel
theorem dX7_launch_7 : decode cX7_launch 7 = .ok (.ifCond .eq 46, 3) := by decide +kernel
theorem dX7_launch_10 : decode cX7_launch 10 = .ok (.iload_n 2, 1) := by decide +kernel
theorem dX7_launch_11 : decode cX7_launch 11 = .ok (.iconst 0, 1) := by decide +kernel
theorem dX7_launch_12 : decode cX7_launch 12 = .ok (.bipush 63, 2) := by decide +kernel
theorem dX7_launch_14 : decode cX7_launch 14 = .ok (.invokestatic 39, 3) := by decide +kernel
theorem dX7_launch_17 : decode cX7_launch 17 = .ok (.ifCond .eq 36, 3) := by decide +kernel
theorem dX7_launch_20 : decode cX7_launch 20 = .ok (.iload_n 3, 1) := by decide +kernel
theorem dX7_launch_21 : decode cX7_launch 21 = .ok (.iconst 1, 1) := by decide +kernel
theorem dX7_launch_22 : decode cX7_launch 22 = .ok (.bipush 47, 2) := by decide +kernel
theorem dX7_launch_24 : decode cX7_launch 24 = .ok (.invokestatic 39, 3) := by decide +kernel
theorem dX7_launch_27 : decode cX7_launch 27 = .ok (.ifCond .eq 26, 3) := by decide +kernel
theorem dX7_launch_30 : decode cX7_launch 30 = .ok (.iload 4, 2) := by decide +kernel
theorem dX7_launch_32 : decode cX7_launch 32 = .ok (.iconst 0, 1) := by decide +kernel
theorem dX7_launch_33 : decode cX7_launch 33 = .ok (.iconst 5, 1) := by decide +kernel
theorem dX7_launch_34 : decode cX7_launch 34 = .ok (.invokestatic 39, 3) := by decide +kernel
theorem dX7_launch_37 : decode cX7_launch 37 = .ok (.ifCond .eq 16, 3) := by decide +kernel
theorem dX7_launch_40 : decode cX7_launch 40 = .ok (.iload 5, 2) := by decide +kernel
theorem dX7_launch_42 : decode cX7_launch 42 = .ok (.bipush 10, 2) := by decide +kernel
theorem dX7_launch_44 : decode cX7_launch 44 = .ok (.sipush 200, 3) := by decide +kernel
theorem dX7_launch_47 : decode cX7_launch 47 = .ok (.invokestatic 39, 3) := by decide +kernel
theorem dX7_launch_50 : decode cX7_launch 50 = .ok (.ifCond .ne 6, 3) := by decide +kernel
theorem dX7_launch_53 : decode cX7_launch 53 = .ok (.bipush (-2), 2) := by decide +kernel
theorem dX7_launch_55 : decode cX7_launch 55 = .ok (.ireturn, 1) := by decide +kernel
theorem dX7_launch_56 : decode cX7_launch 56 = .ok (.aload_n 0, 1) := by decide +kernel
theorem dX7_launch_57 : decode cX7_launch 57 = .ok (.getfield 7, 3) := by decide +kernel
theorem dX7_launch_60 : decode cX7_launch 60 = .ok (.iconst 0, 1) := by decide +kernel
theorem dX7_launch_61 : decode cX7_launch 61 = .ok (.iaload, 1) := by decide +kernel
theorem dX7_launch_62 : decode cX7_launch 62 = .ok (.bipush 6, 2) := by decide +kernel
theorem dX7_launch_64 : decode cX7_launch 64 = .ok (.if_icmp .ne 6, 3) := by decide +kernel
theorem dX7_launch_67 : decode cX7_launch 67 = .ok (.bipush (-4), 2) := by decide +kernel
theorem dX7_launch_69 : decode cX7_launch 69 = .ok (.ireturn, 1) := by decide +kernel
theorem dX7_launch_70 : decode cX7_launch 70 = .ok (.aload_n 0, 1) := by decide +kernel
theorem dX7_launch_71 : decode cX7_launch 71 = .ok (.invokevirtual 111, 3) := by decide +kernel
theorem dX7_launch_74 : decode cX7_launch 74 = .ok (.aload_n 0, 1) := by decide +kernel
theorem dX7_launch_75 : decode cX7_launch 75 = .ok (.getfield 7, 3) := by decide +kernel
theorem dX7_launch_78 : decode cX7_launch 78 = .ok (.iconst 0, 1) := by decide +kernel
theorem dX7_launch_79 : decode cX7_launch 79 = .ok (.iaload, 1) := by decide +kernel
theorem dX7_launch_80 : decode cX7_launch 80 = .ok (.istore 6, 2) := by decide +kernel
theorem dX7_launch_82 : decode cX7_launch 82 = .ok (.iconst 0, 1) := by decide +kernel
theorem dX7_launch_83 : decode cX7_launch 83 = .ok (.istore 7, 2) := by decide +kernel
theorem dX7_launch_85 : decode cX7_launch 85 = .ok (.iload 7, 2) := by decide +kernel
theorem dX7_launch_87 : decode cX7_launch 87 = .ok (.bipush 44, 2) := by decide +kernel
theorem dX7_launch_89 : decode cX7_launch 89 = .ok (.if_icmp .ge 18, 3) := by decide +kernel
theorem dX7_launch_92 : decode cX7_launch 92 = .ok (.aload_n 0, 1) := by decide +kernel
theorem dX7_launch_93 : decode cX7_launch 93 = .ok (.iload 6, 2) := by decide +kernel
theorem dX7_launch_95 : decode cX7_launch 95 = .ok (.iload 7, 2) := by decide +kernel
theorem dX7_launch_97 : decode cX7_launch 97 = .ok (.iconst 0, 1) := by decide +kernel
theorem dX7_launch_98 : decode cX7_launch 98 = .ok (.invokevirtual 82, 3) := by decide +kernel
theorem dX7_launch_101 : decode cX7_launch 101 = .ok (.iinc 7 1, 3) := by decide +kernel
theorem dX7_launch_104 : decode cX7_launch 104 = .ok (.goto (-19), 3) := by decide +kernel
theorem dX7_launch_107 : decode cX7_launch 107 = .ok (.aload_n 0, 1) := by decide +kernel
theorem dX7_launch_108 : decode cX7_launch 108 = .ok (.iload 6, 2) := by decide +kernel
theorem dX7_launch_110 : decode cX7_launch 110 = .ok (.iconst 0, 1) := by decide +kernel
theorem dX7_launch_111 : decode cX7_launch 111 = .ok (.iload_n 1, 1) := by decide +kernel
theorem dX7_launch_112 : decode cX7_launch 112 = .ok (.invokevirtual 82, 3) := by decide +kernel
theorem dX7_launch_115 : decode cX7_launch 115 = .ok (.aload_n 0, 1) := by decide +kernel
theorem dX7_launch_116 : decode cX7_launch 116 = .ok (.iload 6, 2) := by decide +kernel
theorem dX7_launch_118 : decode cX7_launch 118 = .ok (.iconst 1, 1) := by decide +kernel
theorem dX7_launch_119 : decode cX7_launch 119 = .ok (.iload_n 2, 1) := by decide +kernel
theorem dX7_launch_120 : decode cX7_launch 120 = .ok (.invokevirtual 82, 3) := by decide +kernel
theorem dX7_launch_123 : decode cX7_launch 123 = .ok (.aload_n 0, 1) := by decide +kernel
theorem dX7_launch_124 : decode cX7_launch 124 = .ok (.iload 6, 2) := by decide +kernel
theorem dX7_launch_126 : decode cX7_launch 126 = .ok (.iconst 2, 1) := by decide +kernel
theorem dX7_launch_127 : decode cX7_launch 127 = .ok (.iload_n 3, 1) := by decide +kernel
theorem dX7_launch_128 : decode cX7_launch 128 = .ok (.invokevirtual 82, 3) := by decide +kernel
theorem dX7_launch_131 : decode cX7_launch 131 = .ok (.aload_n 0, 1) := by decide +kernel
theorem dX7_launch_132 : decode cX7_launch 132 = .ok (.iload 6, 2) := by decide +kernel
theorem dX7_launch_134 : decode cX7_launch 134 = .ok (.iconst 5, 1) := by decide +kernel
theorem dX7_launch_135 : decode cX7_launch 135 = .ok (.iload 4, 2) := by decide +kernel
theorem dX7_launch_137 : decode cX7_launch 137 = .ok (.invokevirtual 82, 3) := by decide +kernel
theorem dX7_launch_140 : decode cX7_launch 140 = .ok (.aload_n 0, 1) := by decide +kernel
theorem dX7_launch_141 : decode cX7_launch 141 = .ok (.iload 6, 2) := by decide +kernel
theorem dX7_launch_143 : decode cX7_launch 143 = .ok (.bipush 6, 2) := by decide +kernel
theorem dX7_launch_145 : decode cX7_launch 145 = .ok (.iload 5, 2) := by decide +kernel
theorem dX7_launch_147 : decode cX7_launch 147 = .ok (.invokevirtual 82, 3) := by decide +kernel
theorem dX7_launch_150 : decode cX7_launch 150 = .ok (.aload_n 0, 1) := by decide +kernel
theorem dX7_launch_151 : decode cX7_launch 151 = .ok (.iload 6, 2) := by decide +kernel
theorem dX7_launch_153 : decode cX7_launch 153 = .ok (.bipush 9, 2) := by decide +kernel
theorem dX7_launch_155 : decode cX7_launch 155 = .ok (.iload_n 1, 1) := by decide +kernel
theorem dX7_launch_156 : decode cX7_launch 156 = .ok (.invokevirtual 82, 3) := by decide +kernel
theorem dX7_launch_159 : decode cX7_launch 159 = .ok (.aload_n 0, 1) := by decide +kernel
theorem dX7_launch_160 : decode cX7_launch 160 = .ok (.iload 6, 2) := by decide +kernel
theorem dX7_launch_162 : decode cX7_launch 162 = .ok (.bipush 10, 2) := by decide +kernel
theorem dX7_launch_164 : decode cX7_launch 164 = .ok (.iload_n 2, 1) := by decide +kernel
theorem dX7_launch_165 : decode cX7_launch 165 = .ok (.invokevirtual 82, 3) := by decide +kernel
theorem dX7_launch_168 : decode cX7_launch 168 = .ok (.aload_n 0, 1) := by decide +kernel
theorem dX7_launch_169 : decode cX7_launch 169 = .ok (.iload 6, 2) := by decide +kernel
theorem dX7_launch_171 : decode cX7_launch 171 = .ok (.bipush 11, 2) := by decide +kernel
theorem dX7_launch_173 : decode cX7_launch 173 = .ok (.iload_n 3, 1) := by decide +kernel
theorem dX7_launch_174 : decode cX7_launch 174 = .ok (.invokevirtual 82, 3) := by decide +kernel
theorem dX7_launch_177 : decode cX7_launch 177 = .ok (.aload_n 0, 1) := by decide +kernel
theorem dX7_launch_178 : decode cX7_launch 178 = .ok (.getfield 7, 3) := by decide +kernel
theorem dX7_launch_181 : decode cX7_launch 181 = .ok (.iconst 0, 1) := by decide +kernel
theorem dX7_launch_182 : decode cX7_launch 182 = .ok (.dup2, 1) := by decide +kernel
theorem dX7_launch_183 : decode cX7_launch 183 = .ok (.iaload, 1) := by decide +kernel
theorem dX7_launch_184 : decode cX7_launch 184 = .ok (.iconst 1, 1) := by decide +kernel
theorem dX7_launch_185 : decode cX7_launch 185 = .ok (.iadd, 1) := by decide +kernel
theorem dX7_launch_186 : decode cX7_launch 186 = .ok (.iastore, 1) := by decide +kernel
theorem dX7_launch_187 : decode cX7_launch 187 = .ok (.iload 6, 2) := by decide +kernel
theorem dX7_launch_189 : decode cX7_launch 189 = .ok (.ireturn, 1) := by decide +kernel
theorem dX7_isStep_0 : decode cX7_isStep 0 = .ok (.iload_n 0, 1) := by decide +kernel
theorem dX7_isStep_1 : decode cX7_isStep 1 = .ok (.bipush (-3), 2) := by decide +kernel
theorem dX7_isStep_3 : decode cX7_isStep 3 = .ok (.iconst 3, 1) := by decide +kernel
theorem dX7_isStep_4 : decode cX7_isStep 4 = .ok (.invokestatic 39, 3) := by decide +kernel
theorem dX7_isStep_7 : decode cX7_isStep 7 = .ok (.ireturn, 1) := by decide +kernel
theorem dX7_whyNotOrdered_0 : decode cX7_whyNotOrdered 0 = .ok (.aload_n 0, 1) := by decide +kernel
theorem dX7_whyNotOrdered_1 : decode cX7_whyNotOrdered 1 = .ok (.iload_n 1, 1) := by decide +kernel
theorem dX7_whyNotOrdered_2 : decode cX7_whyNotOrdered 2 = .ok (.invokevirtual 114, 3) := by decide +kernel
theorem dX7_whyNotOrdered_5 : decode cX7_whyNotOrdered 5 = .ok (.ifCond .ne 5, 3) := by decide +kernel
theorem dX7_whyNotOrdered_8 : decode cX7_whyNotOrdered 8 = .ok (.iconst (-1), 1) := by decide +kernel
theorem dX7_whyNotOrdered_9 : decode cX7_whyNotOrdered 9 = .ok (.ireturn, 1) := by decide +kernel
theorem dX7_whyNotOrdered_10 : decode cX7_whyNotOrdered 10 = .ok (.iload_n 2, 1) := by decide +kernel
theorem dX7_whyNotOrdered_11 : decode cX7_whyNotOrdered 11 = .ok (.invokestatic 117, 3) := by decide +kernel
theorem dX7_whyNotOrdered_14 : decode cX7_whyNotOrdered 14 = .ok (.ifCond .eq 10, 3) := by decide +kernel
theorem dX7_whyNotOrdered_17 : decode cX7_whyNotOrdered 17 = .ok (.iload_n 3, 1) := by decide +kernel
theorem dX7_whyNotOrdered_18 : decode cX7_whyNotOrdered 18 = .ok (.invokestatic 117, 3) := by decide +kernel
theorem dX7_whyNotOrdered_21 : decode cX7_whyNotOrdered 21 = .ok (.ifCond .ne 8, 3) := by decide +kernel
theorem dX7_whyNotOrdered_24 : decode cX7_whyNotOrdered 24 = .ok (.bipush (-2), 2) := by decide +kernel
theorem dX7_whyNotOrdered_26 : decode cX7_whyNotOrdered 26 = .ok (.goto 17, 3) := by decide +kernel
theorem dX7_whyNotOrdered_29 : decode cX7_whyNotOrdered 29 = .ok (.aload_n 0, 1) := by decide +kernel
theorem dX7_whyNotOrdered_30 : decode cX7_whyNotOrdered 30 = .ok (.iload_n 1, 1) := by decide +kernel
theorem dX7_whyNotOrdered_31 : decode cX7_whyNotOrdered 31 = .ok (.invokevirtual 55, 3) := by decide +kernel
theorem dX7_whyNotOrdered_34 : decode cX7_whyNotOrdered 34 = .ok (.ifCond .eq 7, 3) := by decide +kernel
theorem dX7_whyNotOrdered_37 : decode cX7_whyNotOrdered 37 = .ok (.iconst 0, 1) := by decide +kernel
theorem dX7_whyNotOrdered_38 : decode cX7_whyNotOrdered 38 = .ok (.goto 5, 3) := by decide +kernel
theorem dX7_whyNotOrdered_41 : decode cX7_whyNotOrdered 41 = .ok (.bipush (-5), 2) := by decide +kernel
theorem dX7_whyNotOrdered_43 : decode cX7_whyNotOrdered 43 = .ok (.ireturn, 1) := by decide +kernel
theorem dX7_orders_0 : decode cX7_orders 0 = .ok (.bipush 10, 2) := by decide +kernel
theorem dX7_orders_2 : decode cX7_orders 2 = .ok (.aload_n 0, 1) := by decide +kernel
theorem dX7_orders_3 : decode cX7_orders 3 = .ok (.iload_n 1, 1) := by decide +kernel
theorem dX7_orders_4 : decode cX7_orders 4 = .ok (.iconst 3, 1) := by decide +kernel
theorem dX7_orders_5 : decode cX7_orders 5 = .ok (.invokevirtual 43, 3) := by decide +kernel
theorem dX7_orders_8 : decode cX7_orders 8 = .ok (.iload_n 2, 1) := by decide +kernel
theorem dX7_orders_9 : decode cX7_orders 9 = .ok (.isub, 1) := by decide +kernel
theorem dX7_orders_10 : decode cX7_orders 10 = .ok (.invokestatic 63, 3) := by decide +kernel
theorem dX7_orders_13 : decode cX7_orders 13 = .ok (.imul, 1) := by decide +kernel
theorem dX7_orders_14 : decode cX7_orders 14 = .ok (.aload_n 0, 1) := by decide +kernel
theorem dX7_orders_15 : decode cX7_orders 15 = .ok (.iload_n 1, 1) := by decide +kernel
theorem dX7_orders_16 : decode cX7_orders 16 = .ok (.iconst 4, 1) := by decide +kernel
theorem dX7_orders_17 : decode cX7_orders 17 = .ok (.invokevirtual 43, 3) := by decide +kernel
theorem dX7_orders_20 : decode cX7_orders 20 = .ok (.iload_n 3, 1) := by decide +kernel
theorem dX7_orders_21 : decode cX7_orders 21 = .ok (.isub, 1) := by decide +kernel
theorem dX7_orders_22 : decode cX7_orders 22 = .ok (.invokestatic 63, 3) := by decide +kernel
theorem dX7_orders_25 : decode cX7_orders 25 = .ok (.iadd, 1) := by decide +kernel
theorem dX7_orders_26 : decode cX7_orders 26 = .ok (.istore 4, 2) := by decide +kernel
theorem dX7_orders_28 : decode cX7_orders 28 = .ok (.aload_n 0, 1) := by decide +kernel
theorem dX7_orders_29 : decode cX7_orders 29 = .ok (.iload_n 1, 1) := by decide +kernel
theorem dX7_orders_30 : decode cX7_orders 30 = .ok (.iconst 3, 1) := by decide +kernel
theorem dX7_orders_31 : decode cX7_orders 31 = .ok (.iload_n 2, 1) := by decide +kernel
theorem dX7_orders_32 : decode cX7_orders 32 = .ok (.invokevirtual 82, 3) := by decide +kernel
theorem dX7_orders_35 : decode cX7_orders 35 = .ok (.aload_n 0, 1) := by decide +kernel
theorem dX7_orders_36 : decode cX7_orders 36 = .ok (.iload_n 1, 1) := by decide +kernel
theorem dX7_orders_37 : decode cX7_orders 37 = .ok (.iconst 4, 1) := by decide +kernel
theorem dX7_orders_38 : decode cX7_orders 38 = .ok (.iload_n 3, 1) := by decide +kernel
theorem dX7_orders_39 : decode cX7_orders 39 = .ok (.invokevirtual 82, 3) := by decide +kernel
theorem dX7_orders_42 : decode cX7_orders 42 = .ok (.iload 4, 2) := by decide +kernel
theorem dX7_orders_44 : decode cX7_orders 44 = .ok (.ireturn, 1) := by decide +kernel
theorem dX7_order_0 : decode cX7_order 0 = .ok (.aload_n 0, 1) := by decide +kernel
theorem dX7_order_1 : decode cX7_order 1 = .ok (.iload_n 1, 1) := by decide +kernel
theorem dX7_order_2 : decode cX7_order 2 = .ok (.iload_n 2, 1) := by decide +kernel
theorem dX7_order_3 : decode cX7_order 3 = .ok (.iload_n 3, 1) := by decide +kernel
theorem dX7_order_4 : decode cX7_order 4 = .ok (.invokevirtual 120, 3) := by decide +kernel
theorem dX7_order_7 : decode cX7_order 7 = .ok (.istore 4, 2) := by decide +kernel
theorem dX7_order_9 : decode cX7_order 9 = .ok (.iload 4, 2) := by decide +kernel
theorem dX7_order_11 : decode cX7_order 11 = .ok (.ifCond .ge 6, 3) := by decide +kernel
theorem dX7_order_14 : decode cX7_order 14 = .ok (.iload 4, 2) := by decide +kernel
theorem dX7_order_16 : decode cX7_order 16 = .ok (.ireturn, 1) := by decide +kernel
theorem dX7_order_17 : decode cX7_order 17 = .ok (.aload_n 0, 1) := by decide +kernel
theorem dX7_order_18 : decode cX7_order 18 = .ok (.invokevirtual 111, 3) := by decide +kernel
theorem dX7_order_21 : decode cX7_order 21 = .ok (.aload_n 0, 1) := by decide +kernel
theorem dX7_order_22 : decode cX7_order 22 = .ok (.iload_n 1, 1) := by decide +kernel
theorem dX7_order_23 : decode cX7_order 23 = .ok (.iload_n 2, 1) := by decide +kernel
theorem dX7_order_24 : decode cX7_order 24 = .ok (.iload_n 3, 1) := by decide +kernel
theorem dX7_order_25 : decode cX7_order 25 = .ok (.invokevirtual 123, 3) := by decide +kernel
theorem dX7_order_28 : decode cX7_order 28 = .ok (.ireturn, 1) := by decide +kernel
theorem dX7_step_0 : decode cX7_step 0 = .ok (.aload_n 0, 1) := by decide +kernel
theorem dX7_step_1 : decode cX7_step 1 = .ok (.iload_n 1, 1) := by decide +kernel
theorem dX7_step_2 : decode cX7_step 2 = .ok (.invokevirtual 114, 3) := by decide +kernel
theorem dX7_step_5 : decode cX7_step 5 = .ok (.ifCond .ne 5, 3) := by decide +kernel
theorem dX7_step_8 : decode cX7_step 8 = .ok (.iconst (-1), 1) := by decide +kernel
theorem dX7_step_9 : decode cX7_step 9 = .ok (.ireturn, 1) := by decide +kernel
theorem dX7_step_10 : decode cX7_step 10 = .ok (.iload_n 2, 1) := by decide +kernel
theorem dX7_step_11 : decode cX7_step 11 = .ok (.iconst 0, 1) := by decide +kernel
theorem dX7_step_12 : decode cX7_step 12 = .ok (.bipush 63, 2) := by decide +kernel
theorem dX7_step_14 : decode cX7_step 14 = .ok (.invokestatic 39, 3) := by decide +kernel
theorem dX7_step_17 : decode cX7_step 17 = .ok (.ifCond .ne 6, 3) := by decide +kernel
theorem dX7_step_20 : decode cX7_step 20 = .ok (.bipush (-2), 2) := by decide +kernel
theorem dX7_step_22 : decode cX7_step 22 = .ok (.ireturn, 1) := by decide +kernel
theorem dX7_step_23 : decode cX7_step 23 = .ok (.aload_n 0, 1) := by decide +kernel
theorem dX7_step_24 : decode cX7_step 24 = .ok (.iload_n 1, 1) := by decide +kernel
theorem dX7_step_25 : decode cX7_step 25 = .ok (.invokevirtual 55, 3) := by decide +kernel
theorem dX7_step_28 : decode cX7_step 28 = .ok (.ifCond .ne 6, 3) := by decide +kernel
theorem dX7_step_31 : decode cX7_step 31 = .ok (.bipush (-5), 2) := by decide +kernel
theorem dX7_step_33 : decode cX7_step 33 = .ok (.ireturn, 1) := by decide +kernel
theorem dX7_step_34 : decode cX7_step 34 = .ok (.aload_n 0, 1) := by decide +kernel
theorem dX7_step_35 : decode cX7_step 35 = .ok (.invokevirtual 111, 3) := by decide +kernel
theorem dX7_step_38 : decode cX7_step 38 = .ok (.aload_n 0, 1) := by decide +kernel
theorem dX7_step_39 : decode cX7_step 39 = .ok (.iload_n 1, 1) := by decide +kernel
theorem dX7_step_40 : decode cX7_step 40 = .ok (.iconst 0, 1) := by decide +kernel
theorem dX7_step_41 : decode cX7_step 41 = .ok (.invokevirtual 43, 3) := by decide +kernel
theorem dX7_step_44 : decode cX7_step 44 = .ok (.istore_n 3, 1) := by decide +kernel
theorem dX7_step_45 : decode cX7_step 45 = .ok (.aload_n 0, 1) := by decide +kernel
theorem dX7_step_46 : decode cX7_step 46 = .ok (.iload_n 1, 1) := by decide +kernel
theorem dX7_step_47 : decode cX7_step 47 = .ok (.iconst 0, 1) := by decide +kernel
theorem dX7_step_48 : decode cX7_step 48 = .ok (.iload_n 2, 1) := by decide +kernel
theorem dX7_step_49 : decode cX7_step 49 = .ok (.invokevirtual 82, 3) := by decide +kernel
theorem dX7_step_52 : decode cX7_step 52 = .ok (.iload_n 3, 1) := by decide +kernel
theorem dX7_step_53 : decode cX7_step 53 = .ok (.ireturn, 1) := by decide +kernel
theorem dX7_land_0 : decode cX7_land 0 = .ok (.aload_n 0, 1) := by decide +kernel
theorem dX7_land_1 : decode cX7_land 1 = .ok (.iload_n 1, 1) := by decide +kernel
theorem dX7_land_2 : decode cX7_land 2 = .ok (.invokevirtual 114, 3) := by decide +kernel
theorem dX7_land_5 : decode cX7_land 5 = .ok (.ifCond .ne 5, 3) := by decide +kernel
theorem dX7_land_8 : decode cX7_land 8 = .ok (.iconst (-1), 1) := by decide +kernel
theorem dX7_land_9 : decode cX7_land 9 = .ok (.ireturn, 1) := by decide +kernel
theorem dX7_land_10 : decode cX7_land 10 = .ok (.aload_n 0, 1) := by decide +kernel
theorem dX7_land_11 : decode cX7_land 11 = .ok (.iload_n 1, 1) := by decide +kernel
theorem dX7_land_12 : decode cX7_land 12 = .ok (.invokevirtual 55, 3) := by decide +kernel
theorem dX7_land_15 : decode cX7_land 15 = .ok (.ifCond .ne 6, 3) := by decide +kernel
theorem dX7_land_18 : decode cX7_land 18 = .ok (.bipush (-5), 2) := by decide +kernel
theorem dX7_land_20 : decode cX7_land 20 = .ok (.ireturn, 1) := by decide +kernel
theorem dX7_land_21 : decode cX7_land 21 = .ok (.aload_n 0, 1) := by decide +kernel
theorem dX7_land_22 : decode cX7_land 22 = .ok (.invokevirtual 111, 3) := by decide +kernel
theorem dX7_land_25 : decode cX7_land 25 = .ok (.aload_n 0, 1) := by decide +kernel
theorem dX7_land_26 : decode cX7_land 26 = .ok (.iload_n 1, 1) := by decide +kernel
theorem dX7_land_27 : decode cX7_land 27 = .ok (.bipush 8, 2) := by decide +kernel
theorem dX7_land_29 : decode cX7_land 29 = .ok (.iconst 2, 1) := by decide +kernel
theorem dX7_land_30 : decode cX7_land 30 = .ok (.invokevirtual 82, 3) := by decide +kernel
theorem dX7_land_33 : decode cX7_land 33 = .ok (.aload_n 0, 1) := by decide +kernel
theorem dX7_land_34 : decode cX7_land 34 = .ok (.iload_n 1, 1) := by decide +kernel
theorem dX7_land_35 : decode cX7_land 35 = .ok (.invokevirtual 47, 3) := by decide +kernel
theorem dX7_land_38 : decode cX7_land 38 = .ok (.ireturn, 1) := by decide +kernel
theorem dX7_pass_0 : decode cX7_pass 0 = .ok (.iload_n 1, 1) := by decide +kernel
theorem dX7_pass_1 : decode cX7_pass 1 = .ok (.iconst 1, 1) := by decide +kernel
theorem dX7_pass_2 : decode cX7_pass 2 = .ok (.sipush 200, 3) := by decide +kernel
theorem dX7_pass_5 : decode cX7_pass 5 = .ok (.invokestatic 39, 3) := by decide +kernel
theorem dX7_pass_8 : decode cX7_pass 8 = .ok (.ifCond .ne 6, 3) := by decide +kernel
theorem dX7_pass_11 : decode cX7_pass 11 = .ok (.bipush (-2), 2) := by decide +kernel
theorem dX7_pass_13 : decode cX7_pass 13 = .ok (.ireturn, 1) := by decide +kernel
theorem dX7_pass_14 : decode cX7_pass 14 = .ok (.aload_n 0, 1) := by decide +kernel
theorem dX7_pass_15 : decode cX7_pass 15 = .ok (.invokevirtual 111, 3) := by decide +kernel
theorem dX7_pass_18 : decode cX7_pass 18 = .ok (.aload_n 0, 1) := by decide +kernel
theorem dX7_pass_19 : decode cX7_pass 19 = .ok (.iload_n 1, 1) := by decide +kernel
theorem dX7_pass_20 : decode cX7_pass 20 = .ok (.invokevirtual 126, 3) := by decide +kernel
theorem dX7_pass_23 : decode cX7_pass 23 = .ok (.ireturn, 1) := by decide +kernel
theorem dX7_round_0 : decode cX7_round 0 = .ok (.aload_n 0, 1) := by decide +kernel
theorem dX7_round_1 : decode cX7_round 1 = .ok (.invokevirtual 111, 3) := by decide +kernel
theorem dX7_round_4 : decode cX7_round 4 = .ok (.iconst 0, 1) := by decide +kernel
theorem dX7_round_5 : decode cX7_round 5 = .ok (.istore_n 1, 1) := by decide +kernel
theorem dX7_round_6 : decode cX7_round 6 = .ok (.iload_n 1, 1) := by decide +kernel
theorem dX7_round_7 : decode cX7_round 7 = .ok (.aload_n 0, 1) := by decide +kernel
theorem dX7_round_8 : decode cX7_round 8 = .ok (.getfield 7, 3) := by decide +kernel
theorem dX7_round_11 : decode cX7_round 11 = .ok (.iconst 0, 1) := by decide +kernel
theorem dX7_round_12 : decode cX7_round 12 = .ok (.iaload, 1) := by decide +kernel
theorem dX7_round_13 : decode cX7_round 13 = .ok (.if_icmp .ge 94, 3) := by decide +kernel
theorem dX7_round_16 : decode cX7_round 16 = .ok (.aload_n 0, 1) := by decide +kernel
theorem dX7_round_17 : decode cX7_round 17 = .ok (.iload_n 1, 1) := by decide +kernel
theorem dX7_round_18 : decode cX7_round 18 = .ok (.iconst 0, 1) := by decide +kernel
theorem dX7_round_19 : decode cX7_round 19 = .ok (.aload_n 0, 1) := by decide +kernel
theorem dX7_round_20 : decode cX7_round 20 = .ok (.iload_n 1, 1) := by decide +kernel
theorem dX7_round_21 : decode cX7_round 21 = .ok (.bipush 9, 2) := by decide +kernel
theorem dX7_round_23 : decode cX7_round 23 = .ok (.invokevirtual 43, 3) := by decide +kernel
theorem dX7_round_26 : decode cX7_round 26 = .ok (.invokevirtual 82, 3) := by decide +kernel
theorem dX7_round_29 : decode cX7_round 29 = .ok (.aload_n 0, 1) := by decide +kernel
theorem dX7_round_30 : decode cX7_round 30 = .ok (.iload_n 1, 1) := by decide +kernel
theorem dX7_round_31 : decode cX7_round 31 = .ok (.iconst 1, 1) := by decide +kernel
theorem dX7_round_32 : decode cX7_round 32 = .ok (.aload_n 0, 1) := by decide +kernel
theorem dX7_round_33 : decode cX7_round 33 = .ok (.iload_n 1, 1) := by decide +kernel
theorem dX7_round_34 : decode cX7_round 34 = .ok (.bipush 10, 2) := by decide +kernel
theorem dX7_round_36 : decode cX7_round 36 = .ok (.invokevirtual 43, 3) := by decide +kernel
theorem dX7_round_39 : decode cX7_round 39 = .ok (.invokevirtual 82, 3) := by decide +kernel
theorem dX7_round_42 : decode cX7_round 42 = .ok (.aload_n 0, 1) := by decide +kernel
theorem dX7_round_43 : decode cX7_round 43 = .ok (.iload_n 1, 1) := by decide +kernel
theorem dX7_round_44 : decode cX7_round 44 = .ok (.iconst 2, 1) := by decide +kernel
theorem dX7_round_45 : decode cX7_round 45 = .ok (.aload_n 0, 1) := by decide +kernel
theorem dX7_round_46 : decode cX7_round 46 = .ok (.iload_n 1, 1) := by decide +kernel
theorem dX7_round_47 : decode cX7_round 47 = .ok (.bipush 11, 2) := by decide +kernel
theorem dX7_round_49 : decode cX7_round 49 = .ok (.invokevirtual 43, 3) := by decide +kernel
theorem dX7_round_52 : decode cX7_round 52 = .ok (.invokevirtual 82, 3) := by decide +kernel
theorem dX7_round_55 : decode cX7_round 55 = .ok (.aload_n 0, 1) := by decide +kernel
theorem dX7_round_56 : decode cX7_round 56 = .ok (.iload_n 1, 1) := by decide +kernel
theorem dX7_round_57 : decode cX7_round 57 = .ok (.iconst 3, 1) := by decide +kernel
theorem dX7_round_58 : decode cX7_round 58 = .ok (.iconst 0, 1) := by decide +kernel
theorem dX7_round_59 : decode cX7_round 59 = .ok (.invokevirtual 82, 3) := by decide +kernel
theorem dX7_round_62 : decode cX7_round 62 = .ok (.aload_n 0, 1) := by decide +kernel
theorem dX7_round_63 : decode cX7_round 63 = .ok (.iload_n 1, 1) := by decide +kernel
theorem dX7_round_64 : decode cX7_round 64 = .ok (.iconst 4, 1) := by decide +kernel
theorem dX7_round_65 : decode cX7_round 65 = .ok (.iconst 0, 1) := by decide +kernel
theorem dX7_round_66 : decode cX7_round 66 = .ok (.invokevirtual 82, 3) := by decide +kernel
theorem dX7_round_69 : decode cX7_round 69 = .ok (.aload_n 0, 1) := by decide +kernel
theorem dX7_round_70 : decode cX7_round 70 = .ok (.iload_n 1, 1) := by decide +kernel
theorem dX7_round_71 : decode cX7_round 71 = .ok (.bipush 8, 2) := by decide +kernel
theorem dX7_round_73 : decode cX7_round 73 = .ok (.iconst 0, 1) := by decide +kernel
theorem dX7_round_74 : decode cX7_round 74 = .ok (.invokevirtual 82, 3) := by decide +kernel
theorem dX7_round_77 : decode cX7_round 77 = .ok (.iconst 0, 1) := by decide +kernel
theorem dX7_round_78 : decode cX7_round 78 = .ok (.istore_n 2, 1) := by decide +kernel
theorem dX7_round_79 : decode cX7_round 79 = .ok (.iload_n 2, 1) := by decide +kernel
theorem dX7_round_80 : decode cX7_round 80 = .ok (.bipush 32, 2) := by decide +kernel
theorem dX7_round_82 : decode cX7_round 82 = .ok (.if_icmp .ge 19, 3) := by decide +kernel
theorem dX7_round_85 : decode cX7_round 85 = .ok (.aload_n 0, 1) := by decide +kernel
theorem dX7_round_86 : decode cX7_round 86 = .ok (.iload_n 1, 1) := by decide +kernel
theorem dX7_round_87 : decode cX7_round 87 = .ok (.bipush 12, 2) := by decide +kernel
theorem dX7_round_89 : decode cX7_round 89 = .ok (.iload_n 2, 1) := by decide +kernel
theorem dX7_round_90 : decode cX7_round 90 = .ok (.iadd, 1) := by decide +kernel
theorem dX7_round_91 : decode cX7_round 91 = .ok (.iconst 0, 1) := by decide +kernel
theorem dX7_round_92 : decode cX7_round 92 = .ok (.invokevirtual 82, 3) := by decide +kernel
theorem dX7_round_95 : decode cX7_round 95 = .ok (.iinc 2 1, 3) := by decide +kernel
theorem dX7_round_98 : decode cX7_round 98 = .ok (.goto (-19), 3) := by decide +kernel
theorem dX7_round_101 : decode cX7_round 101 = .ok (.iinc 1 1, 3) := by decide +kernel
theorem dX7_round_104 : decode cX7_round 104 = .ok (.goto (-98), 3) := by decide +kernel
theorem dX7_round_107 : decode cX7_round 107 = .ok (.aload_n 0, 1) := by decide +kernel
theorem dX7_round_108 : decode cX7_round 108 = .ok (.getfield 7, 3) := by decide +kernel
theorem dX7_round_111 : decode cX7_round 111 = .ok (.iconst 1, 1) := by decide +kernel
theorem dX7_round_112 : decode cX7_round 112 = .ok (.dup2, 1) := by decide +kernel
theorem dX7_round_113 : decode cX7_round 113 = .ok (.iaload, 1) := by decide +kernel
theorem dX7_round_114 : decode cX7_round 114 = .ok (.iconst 1, 1) := by decide +kernel
theorem dX7_round_115 : decode cX7_round 115 = .ok (.iadd, 1) := by decide +kernel
theorem dX7_round_116 : decode cX7_round 116 = .ok (.iastore, 1) := by decide +kernel
theorem dX7_round_117 : decode cX7_round 117 = .ok (.aload_n 0, 1) := by decide +kernel
theorem dX7_round_118 : decode cX7_round 118 = .ok (.getfield 7, 3) := by decide +kernel
theorem dX7_round_121 : decode cX7_round 121 = .ok (.iconst 1, 1) := by decide +kernel
theorem dX7_round_122 : decode cX7_round 122 = .ok (.iaload, 1) := by decide +kernel
theorem dX7_round_123 : decode cX7_round 123 = .ok (.ireturn, 1) := by decide +kernel
theorem dX7_kite_0 : decode cX7_kite 0 = .ok (.aload_n 0, 1) := by decide +kernel
theorem dX7_kite_1 : decode cX7_kite 1 = .ok (.iload_n 1, 1) := by decide +kernel
theorem dX7_kite_2 : decode cX7_kite 2 = .ok (.invokevirtual 114, 3) := by decide +kernel
theorem dX7_kite_5 : decode cX7_kite 5 = .ok (.ifCond .ne 5, 3) := by decide +kernel
theorem dX7_kite_8 : decode cX7_kite 8 = .ok (.iconst (-1), 1) := by decide +kernel
theorem dX7_kite_9 : decode cX7_kite 9 = .ok (.ireturn, 1) := by decide +kernel
theorem dX7_kite_10 : decode cX7_kite 10 = .ok (.iload_n 2, 1) := by decide +kernel
theorem dX7_kite_11 : decode cX7_kite 11 = .ok (.tableswitch 132 0 11 #[61, 61, 61, 68, 68, 61, 61, 61, 61, 78, 96, 114], 61) := by decide +kernel
theorem dX7_kite_72 : decode cX7_kite 72 = .ok (.aload_n 0, 1) := by decide +kernel
theorem dX7_kite_73 : decode cX7_kite 73 = .ok (.iload_n 1, 1) := by decide +kernel
theorem dX7_kite_74 : decode cX7_kite 74 = .ok (.iload_n 2, 1) := by decide +kernel
theorem dX7_kite_75 : decode cX7_kite 75 = .ok (.invokevirtual 43, 3) := by decide +kernel
theorem dX7_kite_78 : decode cX7_kite 78 = .ok (.ireturn, 1) := by decide +kernel
theorem dX7_kite_79 : decode cX7_kite 79 = .ok (.aload_n 0, 1) := by decide +kernel
theorem dX7_kite_80 : decode cX7_kite 80 = .ok (.iload_n 1, 1) := by decide +kernel
theorem dX7_kite_81 : decode cX7_kite 81 = .ok (.iload_n 2, 1) := by decide +kernel
theorem dX7_kite_82 : decode cX7_kite 82 = .ok (.invokevirtual 43, 3) := by decide +kernel
theorem dX7_kite_85 : decode cX7_kite 85 = .ok (.bipush 10, 2) := by decide +kernel
theorem dX7_kite_87 : decode cX7_kite 87 = .ok (.iadd, 1) := by decide +kernel
theorem dX7_kite_88 : decode cX7_kite 88 = .ok (.ireturn, 1) := by decide +kernel
theorem dX7_kite_89 : decode cX7_kite 89 = .ok (.aload_n 0, 1) := by decide +kernel
theorem dX7_kite_90 : decode cX7_kite 90 = .ok (.iload_n 1, 1) := by decide +kernel
theorem dX7_kite_91 : decode cX7_kite 91 = .ok (.invokevirtual 55, 3) := by decide +kernel
theorem dX7_kite_94 : decode cX7_kite 94 = .ok (.ifCond .eq 11, 3) := by decide +kernel
theorem dX7_kite_97 : decode cX7_kite 97 = .ok (.aload_n 0, 1) := by decide +kernel
theorem dX7_kite_98 : decode cX7_kite 98 = .ok (.iload_n 1, 1) := by decide +kernel
theorem dX7_kite_99 : decode cX7_kite 99 = .ok (.invokevirtual 47, 3) := by decide +kernel
theorem dX7_kite_102 : decode cX7_kite 102 = .ok (.goto 4, 3) := by decide +kernel
theorem dX7_kite_105 : decode cX7_kite 105 = .ok (.iconst 0, 1) := by decide +kernel
theorem dX7_kite_106 : decode cX7_kite 106 = .ok (.ireturn, 1) := by decide +kernel
theorem dX7_kite_107 : decode cX7_kite 107 = .ok (.aload_n 0, 1) := by decide +kernel
theorem dX7_kite_108 : decode cX7_kite 108 = .ok (.iload_n 1, 1) := by decide +kernel
theorem dX7_kite_109 : decode cX7_kite 109 = .ok (.invokevirtual 55, 3) := by decide +kernel
theorem dX7_kite_112 : decode cX7_kite 112 = .ok (.ifCond .eq 11, 3) := by decide +kernel
theorem dX7_kite_115 : decode cX7_kite 115 = .ok (.aload_n 0, 1) := by decide +kernel
theorem dX7_kite_116 : decode cX7_kite 116 = .ok (.iload_n 1, 1) := by decide +kernel
theorem dX7_kite_117 : decode cX7_kite 117 = .ok (.invokevirtual 129, 3) := by decide +kernel
theorem dX7_kite_120 : decode cX7_kite 120 = .ok (.goto 4, 3) := by decide +kernel
theorem dX7_kite_123 : decode cX7_kite 123 = .ok (.iconst 0, 1) := by decide +kernel
theorem dX7_kite_124 : decode cX7_kite 124 = .ok (.ireturn, 1) := by decide +kernel
theorem dX7_kite_125 : decode cX7_kite 125 = .ok (.aload_n 0, 1) := by decide +kernel
theorem dX7_kite_126 : decode cX7_kite 126 = .ok (.iload_n 1, 1) := by decide +kernel
theorem dX7_kite_127 : decode cX7_kite 127 = .ok (.invokevirtual 55, 3) := by decide +kernel
theorem dX7_kite_130 : decode cX7_kite 130 = .ok (.ifCond .eq 11, 3) := by decide +kernel
theorem dX7_kite_133 : decode cX7_kite 133 = .ok (.aload_n 0, 1) := by decide +kernel
theorem dX7_kite_134 : decode cX7_kite 134 = .ok (.iload_n 1, 1) := by decide +kernel
theorem dX7_kite_135 : decode cX7_kite 135 = .ok (.invokevirtual 132, 3) := by decide +kernel
theorem dX7_kite_138 : decode cX7_kite 138 = .ok (.goto 4, 3) := by decide +kernel
theorem dX7_kite_141 : decode cX7_kite 141 = .ok (.iconst 0, 1) := by decide +kernel
theorem dX7_kite_142 : decode cX7_kite 142 = .ok (.ireturn, 1) := by decide +kernel
theorem dX7_kite_143 : decode cX7_kite 143 = .ok (.bipush (-2), 2) := by decide +kernel
theorem dX7_kite_145 : decode cX7_kite 145 = .ok (.ireturn, 1) := by decide +kernel
theorem dX7_wear_0 : decode cX7_wear 0 = .ok (.aload_n 0, 1) := by decide +kernel
theorem dX7_wear_1 : decode cX7_wear 1 = .ok (.iload_n 1, 1) := by decide +kernel
theorem dX7_wear_2 : decode cX7_wear 2 = .ok (.invokevirtual 114, 3) := by decide +kernel
theorem dX7_wear_5 : decode cX7_wear 5 = .ok (.ifCond .eq 13, 3) := by decide +kernel
theorem dX7_wear_8 : decode cX7_wear 8 = .ok (.iload_n 2, 1) := by decide +kernel
theorem dX7_wear_9 : decode cX7_wear 9 = .ok (.iconst 0, 1) := by decide +kernel
theorem dX7_wear_10 : decode cX7_wear 10 = .ok (.bipush 31, 2) := by decide +kernel
theorem dX7_wear_12 : decode cX7_wear 12 = .ok (.invokestatic 39, 3) := by decide +kernel
theorem dX7_wear_15 : decode cX7_wear 15 = .ok (.ifCond .ne 5, 3) := by decide +kernel
theorem dX7_wear_18 : decode cX7_wear 18 = .ok (.iconst (-1), 1) := by decide +kernel
theorem dX7_wear_19 : decode cX7_wear 19 = .ok (.ireturn, 1) := by decide +kernel
theorem dX7_wear_20 : decode cX7_wear 20 = .ok (.aload_n 0, 1) := by decide +kernel
theorem dX7_wear_21 : decode cX7_wear 21 = .ok (.iload_n 1, 1) := by decide +kernel
theorem dX7_wear_22 : decode cX7_wear 22 = .ok (.invokevirtual 55, 3) := by decide +kernel
theorem dX7_wear_25 : decode cX7_wear 25 = .ok (.ifCond .eq 15, 3) := by decide +kernel
theorem dX7_wear_28 : decode cX7_wear 28 = .ok (.aload_n 0, 1) := by decide +kernel
theorem dX7_wear_29 : decode cX7_wear 29 = .ok (.iload_n 1, 1) := by decide +kernel
theorem dX7_wear_30 : decode cX7_wear 30 = .ok (.bipush 12, 2) := by decide +kernel
theorem dX7_wear_32 : decode cX7_wear 32 = .ok (.iload_n 2, 1) := by decide +kernel
theorem dX7_wear_33 : decode cX7_wear 33 = .ok (.iadd, 1) := by decide +kernel
theorem dX7_wear_34 : decode cX7_wear 34 = .ok (.invokevirtual 43, 3) := by decide +kernel
theorem dX7_wear_37 : decode cX7_wear 37 = .ok (.goto 5, 3) := by decide +kernel
theorem dX7_wear_40 : decode cX7_wear 40 = .ok (.bipush (-5), 2) := by decide +kernel
theorem dX7_wear_42 : decode cX7_wear 42 = .ok (.ireturn, 1) := by decide +kernel
theorem dX7_crossing_0 : decode cX7_crossing 0 = .ok (.aload_n 0, 1) := by decide +kernel
theorem dX7_crossing_1 : decode cX7_crossing 1 = .ok (.iload_n 1, 1) := by decide +kernel
theorem dX7_crossing_2 : decode cX7_crossing 2 = .ok (.invokevirtual 114, 3) := by decide +kernel
theorem dX7_crossing_5 : decode cX7_crossing 5 = .ok (.ifCond .eq 11, 3) := by decide +kernel
theorem dX7_crossing_8 : decode cX7_crossing 8 = .ok (.aload_n 0, 1) := by decide +kernel
theorem dX7_crossing_9 : decode cX7_crossing 9 = .ok (.iload_n 2, 1) := by decide +kernel
theorem dX7_crossing_10 : decode cX7_crossing 10 = .ok (.invokevirtual 114, 3) := by decide +kernel
theorem dX7_crossing_13 : decode cX7_crossing 13 = .ok (.ifCond .ne 5, 3) := by decide +kernel
theorem dX7_crossing_16 : decode cX7_crossing 16 = .ok (.iconst (-1), 1) := by decide +kernel
theorem dX7_crossing_17 : decode cX7_crossing 17 = .ok (.ireturn, 1) := by decide +kernel
theorem dX7_crossing_18 : decode cX7_crossing 18 = .ok (.iload_n 1, 1) := by decide +kernel
theorem dX7_crossing_19 : decode cX7_crossing 19 = .ok (.iload_n 2, 1) := by decide +kernel
theorem dX7_crossing_20 : decode cX7_crossing 20 = .ok (.if_icmp .eq 12, 3) := by decide +kernel
theorem dX7_crossing_23 : decode cX7_crossing 23 = .ok (.iload_n 3, 1) := by decide +kernel
theorem dX7_crossing_24 : decode cX7_crossing 24 = .ok (.iconst 0, 1) := by decide +kernel
theorem dX7_crossing_25 : decode cX7_crossing 25 = .ok (.iconst 5, 1) := by decide +kernel
theorem dX7_crossing_26 : decode cX7_crossing 26 = .ok (.invokestatic 39, 3) := by decide +kernel
theorem dX7_crossing_29 : decode cX7_crossing 29 = .ok (.ifCond .ne 6, 3) := by decide +kernel
theorem dX7_crossing_32 : decode cX7_crossing 32 = .ok (.bipush (-2), 2) := by decide +kernel
theorem dX7_crossing_34 : decode cX7_crossing 34 = .ok (.ireturn, 1) := by decide +kernel
theorem dX7_crossing_35 : decode cX7_crossing 35 = .ok (.aload_n 0, 1) := by decide +kernel
theorem dX7_crossing_36 : decode cX7_crossing 36 = .ok (.iload_n 1, 1) := by decide +kernel
theorem dX7_crossing_37 : decode cX7_crossing 37 = .ok (.invokevirtual 55, 3) := by decide +kernel
theorem dX7_crossing_40 : decode cX7_crossing 40 = .ok (.ifCond .eq 11, 3) := by decide +kernel
theorem dX7_crossing_43 : decode cX7_crossing 43 = .ok (.aload_n 0, 1) := by decide +kernel
theorem dX7_crossing_44 : decode cX7_crossing 44 = .ok (.iload_n 2, 1) := by decide +kernel
theorem dX7_crossing_45 : decode cX7_crossing 45 = .ok (.invokevirtual 55, 3) := by decide +kernel
theorem dX7_crossing_48 : decode cX7_crossing 48 = .ok (.ifCond .ne 6, 3) := by decide +kernel
theorem dX7_crossing_51 : decode cX7_crossing 51 = .ok (.bipush (-5), 2) := by decide +kernel
theorem dX7_crossing_53 : decode cX7_crossing 53 = .ok (.ireturn, 1) := by decide +kernel
theorem dX7_crossing_54 : decode cX7_crossing 54 = .ok (.aload_n 0, 1) := by decide +kernel
theorem dX7_crossing_55 : decode cX7_crossing 55 = .ok (.iload_n 1, 1) := by decide +kernel
theorem dX7_crossing_56 : decode cX7_crossing 56 = .ok (.iload_n 2, 1) := by decide +kernel
theorem dX7_crossing_57 : decode cX7_crossing 57 = .ok (.invokevirtual 79, 3) := by decide +kernel
theorem dX7_crossing_60 : decode cX7_crossing 60 = .ok (.istore 4, 2) := by decide +kernel
theorem dX7_crossing_62 : decode cX7_crossing 62 = .ok (.iload_n 3, 1) := by decide +kernel
theorem dX7_crossing_63 : decode cX7_crossing 63 = .ok (.tableswitch 104 0 4 #[33, 44, 59, 74, 97], 33) := by decide +kernel
theorem dX7_crossing_96 : decode cX7_crossing 96 = .ok (.iload 4, 2) := by decide +kernel
theorem dX7_crossing_98 : decode cX7_crossing 98 = .ok (.ifCond .eq 7, 3) := by decide +kernel
theorem dX7_crossing_101 : decode cX7_crossing 101 = .ok (.iconst 1, 1) := by decide +kernel
theorem dX7_crossing_102 : decode cX7_crossing 102 = .ok (.goto 4, 3) := by decide +kernel
theorem dX7_crossing_105 : decode cX7_crossing 105 = .ok (.iconst 0, 1) := by decide +kernel
theorem dX7_crossing_106 : decode cX7_crossing 106 = .ok (.ireturn, 1) := by decide +kernel
theorem dX7_crossing_107 : decode cX7_crossing 107 = .ok (.iload 4, 2) := by decide +kernel
theorem dX7_crossing_109 : decode cX7_crossing 109 = .ok (.ifCond .eq 10, 3) := by decide +kernel
theorem dX7_crossing_112 : decode cX7_crossing 112 = .ok (.aload_n 0, 1) := by decide +kernel
theorem dX7_crossing_113 : decode cX7_crossing 113 = .ok (.getfield 66, 3) := by decide +kernel
theorem dX7_crossing_116 : decode cX7_crossing 116 = .ok (.goto 5, 3) := by decide +kernel
theorem dX7_crossing_119 : decode cX7_crossing 119 = .ok (.bipush (-6), 2) := by decide +kernel
theorem dX7_crossing_121 : decode cX7_crossing 121 = .ok (.ireturn, 1) := by decide +kernel
theorem dX7_crossing_122 : decode cX7_crossing 122 = .ok (.iload 4, 2) := by decide +kernel
theorem dX7_crossing_124 : decode cX7_crossing 124 = .ok (.ifCond .eq 10, 3) := by decide +kernel
theorem dX7_crossing_127 : decode cX7_crossing 127 = .ok (.aload_n 0, 1) := by decide +kernel
theorem dX7_crossing_128 : decode cX7_crossing 128 = .ok (.getfield 69, 3) := by decide +kernel
theorem dX7_crossing_131 : decode cX7_crossing 131 = .ok (.goto 5, 3) := by decide +kernel
theorem dX7_crossing_134 : decode cX7_crossing 134 = .ok (.bipush (-6), 2) := by decide +kernel
theorem dX7_crossing_136 : decode cX7_crossing 136 = .ok (.ireturn, 1) := by decide +kernel
theorem dX7_crossing_137 : decode cX7_crossing 137 = .ok (.iload 4, 2) := by decide +kernel
theorem dX7_crossing_139 : decode cX7_crossing 139 = .ok (.ifCond .ne 8, 3) := by decide +kernel
theorem dX7_crossing_142 : decode cX7_crossing 142 = .ok (.bipush (-6), 2) := by decide +kernel
theorem dX7_crossing_144 : decode cX7_crossing 144 = .ok (.goto 15, 3) := by decide +kernel
theorem dX7_crossing_147 : decode cX7_crossing 147 = .ok (.aload_n 0, 1) := by decide +kernel
theorem dX7_crossing_148 : decode cX7_crossing 148 = .ok (.getfield 72, 3) := by decide +kernel
theorem dX7_crossing_151 : decode cX7_crossing 151 = .ok (.ifCond .eq 7, 3) := by decide +kernel
theorem dX7_crossing_154 : decode cX7_crossing 154 = .ok (.iconst 1, 1) := by decide +kernel
theorem dX7_crossing_155 : decode cX7_crossing 155 = .ok (.goto 4, 3) := by decide +kernel
theorem dX7_crossing_158 : decode cX7_crossing 158 = .ok (.iconst 0, 1) := by decide +kernel
theorem dX7_crossing_159 : decode cX7_crossing 159 = .ok (.ireturn, 1) := by decide +kernel
theorem dX7_crossing_160 : decode cX7_crossing 160 = .ok (.aload_n 0, 1) := by decide +kernel
theorem dX7_crossing_161 : decode cX7_crossing 161 = .ok (.iload_n 1, 1) := by decide +kernel
theorem dX7_crossing_162 : decode cX7_crossing 162 = .ok (.iload_n 2, 1) := by decide +kernel
theorem dX7_crossing_163 : decode cX7_crossing 163 = .ok (.invokevirtual 76, 3) := by decide +kernel
theorem dX7_crossing_166 : decode cX7_crossing 166 = .ok (.ireturn, 1) := by decide +kernel
theorem dX7_crossing_167 : decode cX7_crossing 167 = .ok (.iload 4, 2) := by decide +kernel
theorem dX7_crossing_169 : decode cX7_crossing 169 = .ok (.ifCond .eq 12, 3) := by decide +kernel
theorem dX7_crossing_172 : decode cX7_crossing 172 = .ok (.aload_n 0, 1) := by decide +kernel
theorem dX7_crossing_173 : decode cX7_crossing 173 = .ok (.iload_n 1, 1) := by decide +kernel
theorem dX7_crossing_174 : decode cX7_crossing 174 = .ok (.iload_n 2, 1) := by decide +kernel
theorem dX7_crossing_175 : decode cX7_crossing 175 = .ok (.invokevirtual 86, 3) := by decide +kernel
theorem dX7_crossing_178 : decode cX7_crossing 178 = .ok (.goto 4, 3) := by decide +kernel
theorem dX7_crossing_181 : decode cX7_crossing 181 = .ok (.iconst 0, 1) := by decide +kernel
theorem dX7_crossing_182 : decode cX7_crossing 182 = .ok (.ireturn, 1) := by decide +kernel
theorem dX7_inTheAir_0 : decode cX7_inTheAir 0 = .ok (.iconst 0, 1) := by decide +kernel
theorem dX7_inTheAir_1 : decode cX7_inTheAir 1 = .ok (.istore_n 1, 1) := by decide +kernel
theorem dX7_inTheAir_2 : decode cX7_inTheAir 2 = .ok (.iconst 0, 1) := by decide +kernel
theorem dX7_inTheAir_3 : decode cX7_inTheAir 3 = .ok (.istore_n 2, 1) := by decide +kernel
theorem dX7_inTheAir_4 : decode cX7_inTheAir 4 = .ok (.iload_n 2, 1) := by decide +kernel
theorem dX7_inTheAir_5 : decode cX7_inTheAir 5 = .ok (.aload_n 0, 1) := by decide +kernel
theorem dX7_inTheAir_6 : decode cX7_inTheAir 6 = .ok (.getfield 7, 3) := by decide +kernel
theorem dX7_inTheAir_9 : decode cX7_inTheAir 9 = .ok (.iconst 0, 1) := by decide +kernel
theorem dX7_inTheAir_10 : decode cX7_inTheAir 10 = .ok (.iaload, 1) := by decide +kernel
theorem dX7_inTheAir_11 : decode cX7_inTheAir 11 = .ok (.if_icmp .ge 27, 3) := by decide +kernel
theorem dX7_inTheAir_14 : decode cX7_inTheAir 14 = .ok (.iload_n 1, 1) := by decide +kernel
theorem dX7_inTheAir_15 : decode cX7_inTheAir 15 = .ok (.aload_n 0, 1) := by decide +kernel
theorem dX7_inTheAir_16 : decode cX7_inTheAir 16 = .ok (.iload_n 2, 1) := by decide +kernel
theorem dX7_inTheAir_17 : decode cX7_inTheAir 17 = .ok (.invokevirtual 55, 3) := by decide +kernel
theorem dX7_inTheAir_20 : decode cX7_inTheAir 20 = .ok (.ifCond .eq 9, 3) := by decide +kernel
theorem dX7_inTheAir_23 : decode cX7_inTheAir 23 = .ok (.iconst 1, 1) := by decide +kernel
theorem dX7_inTheAir_24 : decode cX7_inTheAir 24 = .ok (.iload_n 2, 1) := by decide +kernel
theorem dX7_inTheAir_25 : decode cX7_inTheAir 25 = .ok (.ishl, 1) := by decide +kernel
theorem dX7_inTheAir_26 : decode cX7_inTheAir 26 = .ok (.goto 4, 3) := by decide +kernel
theorem dX7_inTheAir_29 : decode cX7_inTheAir 29 = .ok (.iconst 0, 1) := by decide +kernel
theorem dX7_inTheAir_30 : decode cX7_inTheAir 30 = .ok (.ior, 1) := by decide +kernel
theorem dX7_inTheAir_31 : decode cX7_inTheAir 31 = .ok (.istore_n 1, 1) := by decide +kernel
theorem dX7_inTheAir_32 : decode cX7_inTheAir 32 = .ok (.iinc 2 1, 3) := by decide +kernel
theorem dX7_inTheAir_35 : decode cX7_inTheAir 35 = .ok (.goto (-31), 3) := by decide +kernel
theorem dX7_inTheAir_38 : decode cX7_inTheAir 38 = .ok (.iload_n 1, 1) := by decide +kernel
theorem dX7_inTheAir_39 : decode cX7_inTheAir 39 = .ok (.ireturn, 1) := by decide +kernel
theorem dX7_leader_0 : decode cX7_leader 0 = .ok (.bipush (-6), 2) := by decide +kernel
theorem dX7_leader_2 : decode cX7_leader 2 = .ok (.istore_n 1, 1) := by decide +kernel
theorem dX7_leader_3 : decode cX7_leader 3 = .ok (.iconst 0, 1) := by decide +kernel
theorem dX7_leader_4 : decode cX7_leader 4 = .ok (.istore_n 2, 1) := by decide +kernel
theorem dX7_leader_5 : decode cX7_leader 5 = .ok (.iload_n 2, 1) := by decide +kernel
theorem dX7_leader_6 : decode cX7_leader 6 = .ok (.aload_n 0, 1) := by decide +kernel
theorem dX7_leader_7 : decode cX7_leader 7 = .ok (.getfield 7, 3) := by decide +kernel
theorem dX7_leader_10 : decode cX7_leader 10 = .ok (.iconst 0, 1) := by decide +kernel
theorem dX7_leader_11 : decode cX7_leader 11 = .ok (.iaload, 1) := by decide +kernel
theorem dX7_leader_12 : decode cX7_leader 12 = .ok (.if_icmp .ge 38, 3) := by decide +kernel
theorem dX7_leader_15 : decode cX7_leader 15 = .ok (.iload_n 1, 1) := by decide +kernel
theorem dX7_leader_16 : decode cX7_leader 16 = .ok (.bipush (-6), 2) := by decide +kernel
theorem dX7_leader_18 : decode cX7_leader 18 = .ok (.if_icmp .eq 20, 3) := by decide +kernel
theorem dX7_leader_21 : decode cX7_leader 21 = .ok (.aload_n 0, 1) := by decide +kernel
theorem dX7_leader_22 : decode cX7_leader 22 = .ok (.iload_n 2, 1) := by decide +kernel
theorem dX7_leader_23 : decode cX7_leader 23 = .ok (.bipush 7, 2) := by decide +kernel
theorem dX7_leader_25 : decode cX7_leader 25 = .ok (.invokevirtual 43, 3) := by decide +kernel
theorem dX7_leader_28 : decode cX7_leader 28 = .ok (.aload_n 0, 1) := by decide +kernel
theorem dX7_leader_29 : decode cX7_leader 29 = .ok (.iload_n 1, 1) := by decide +kernel
theorem dX7_leader_30 : decode cX7_leader 30 = .ok (.bipush 7, 2) := by decide +kernel
theorem dX7_leader_32 : decode cX7_leader 32 = .ok (.invokevirtual 43, 3) := by decide +kernel
theorem dX7_leader_35 : decode cX7_leader 35 = .ok (.if_icmp .le 7, 3) := by decide +kernel
theorem dX7_leader_38 : decode cX7_leader 38 = .ok (.iload_n 2, 1) := by decide +kernel
theorem dX7_leader_39 : decode cX7_leader 39 = .ok (.goto 4, 3) := by decide +kernel
theorem dX7_leader_42 : decode cX7_leader 42 = .ok (.iload_n 1, 1) := by decide +kernel
theorem dX7_leader_43 : decode cX7_leader 43 = .ok (.istore_n 1, 1) := by decide +kernel
theorem dX7_leader_44 : decode cX7_leader 44 = .ok (.iinc 2 1, 3) := by decide +kernel
theorem dX7_leader_47 : decode cX7_leader 47 = .ok (.goto (-42), 3) := by decide +kernel
theorem dX7_leader_50 : decode cX7_leader 50 = .ok (.iload_n 1, 1) := by decide +kernel
theorem dX7_leader_51 : decode cX7_leader 51 = .ok (.ireturn, 1) := by decide +kernel
theorem dX7_allPoints_0 : decode cX7_allPoints 0 = .ok (.iconst 0, 1) := by decide +kernel
theorem dX7_allPoints_1 : decode cX7_allPoints 1 = .ok (.istore_n 1, 1) := by decide +kernel
theorem dX7_allPoints_2 : decode cX7_allPoints 2 = .ok (.iconst 0, 1) := by decide +kernel
theorem dX7_allPoints_3 : decode cX7_allPoints 3 = .ok (.istore_n 2, 1) := by decide +kernel
theorem dX7_allPoints_4 : decode cX7_allPoints 4 = .ok (.iload_n 2, 1) := by decide +kernel
theorem dX7_allPoints_5 : decode cX7_allPoints 5 = .ok (.aload_n 0, 1) := by decide +kernel
theorem dX7_allPoints_6 : decode cX7_allPoints 6 = .ok (.getfield 7, 3) := by decide +kernel
theorem dX7_allPoints_9 : decode cX7_allPoints 9 = .ok (.iconst 0, 1) := by decide +kernel
theorem dX7_allPoints_10 : decode cX7_allPoints 10 = .ok (.iaload, 1) := by decide +kernel
theorem dX7_allPoints_11 : decode cX7_allPoints 11 = .ok (.if_icmp .ge 19, 3) := by decide +kernel
theorem dX7_allPoints_14 : decode cX7_allPoints 14 = .ok (.iload_n 1, 1) := by decide +kernel
theorem dX7_allPoints_15 : decode cX7_allPoints 15 = .ok (.aload_n 0, 1) := by decide +kernel
theorem dX7_allPoints_16 : decode cX7_allPoints 16 = .ok (.iload_n 2, 1) := by decide +kernel
theorem dX7_allPoints_17 : decode cX7_allPoints 17 = .ok (.bipush 7, 2) := by decide +kernel
theorem dX7_allPoints_19 : decode cX7_allPoints 19 = .ok (.invokevirtual 43, 3) := by decide +kernel
theorem dX7_allPoints_22 : decode cX7_allPoints 22 = .ok (.iadd, 1) := by decide +kernel
theorem dX7_allPoints_23 : decode cX7_allPoints 23 = .ok (.istore_n 1, 1) := by decide +kernel
theorem dX7_allPoints_24 : decode cX7_allPoints 24 = .ok (.iinc 2 1, 3) := by decide +kernel
theorem dX7_allPoints_27 : decode cX7_allPoints 27 = .ok (.goto (-23), 3) := by decide +kernel
theorem dX7_allPoints_30 : decode cX7_allPoints 30 = .ok (.iload_n 1, 1) := by decide +kernel
theorem dX7_allPoints_31 : decode cX7_allPoints 31 = .ok (.ireturn, 1) := by decide +kernel
theorem dX7_count_0 : decode cX7_count 0 = .ok (.iload_n 1, 1) := by decide +kernel
theorem dX7_count_1 : decode cX7_count 1 = .ok (.tableswitch 113 0 9 #[55, 62, 67, 72, 79, 86, 91, 96, 103, 108], 55) := by decide +kernel
theorem dX7_count_56 : decode cX7_count 56 = .ok (.aload_n 0, 1) := by decide +kernel
theorem dX7_count_57 : decode cX7_count 57 = .ok (.getfield 7, 3) := by decide +kernel
theorem dX7_count_60 : decode cX7_count 60 = .ok (.iconst 0, 1) := by decide +kernel
theorem dX7_count_61 : decode cX7_count 61 = .ok (.iaload, 1) := by decide +kernel
theorem dX7_count_62 : decode cX7_count 62 = .ok (.ireturn, 1) := by decide +kernel
theorem dX7_count_63 : decode cX7_count 63 = .ok (.aload_n 0, 1) := by decide +kernel
theorem dX7_count_64 : decode cX7_count 64 = .ok (.invokevirtual 135, 3) := by decide +kernel
theorem dX7_count_67 : decode cX7_count 67 = .ok (.ireturn, 1) := by decide +kernel
theorem dX7_count_68 : decode cX7_count 68 = .ok (.aload_n 0, 1) := by decide +kernel
theorem dX7_count_69 : decode cX7_count 69 = .ok (.invokevirtual 139, 3) := by decide +kernel
theorem dX7_count_72 : decode cX7_count 72 = .ok (.ireturn, 1) := by decide +kernel
theorem dX7_count_73 : decode cX7_count 73 = .ok (.aload_n 0, 1) := by decide +kernel
theorem dX7_count_74 : decode cX7_count 74 = .ok (.getfield 7, 3) := by decide +kernel
theorem dX7_count_77 : decode cX7_count 77 = .ok (.iconst 2, 1) := by decide +kernel
theorem dX7_count_78 : decode cX7_count 78 = .ok (.iaload, 1) := by decide +kernel
theorem dX7_count_79 : decode cX7_count 79 = .ok (.ireturn, 1) := by decide +kernel
theorem dX7_count_80 : decode cX7_count 80 = .ok (.aload_n 0, 1) := by decide +kernel
theorem dX7_count_81 : decode cX7_count 81 = .ok (.getfield 7, 3) := by decide +kernel
theorem dX7_count_84 : decode cX7_count 84 = .ok (.iconst 1, 1) := by decide +kernel
theorem dX7_count_85 : decode cX7_count 85 = .ok (.iaload, 1) := by decide +kernel
theorem dX7_count_86 : decode cX7_count 86 = .ok (.ireturn, 1) := by decide +kernel
theorem dX7_count_87 : decode cX7_count 87 = .ok (.aload_n 0, 1) := by decide +kernel
theorem dX7_count_88 : decode cX7_count 88 = .ok (.invokevirtual 142, 3) := by decide +kernel
theorem dX7_count_91 : decode cX7_count 91 = .ok (.ireturn, 1) := by decide +kernel
theorem dX7_count_92 : decode cX7_count 92 = .ok (.aload_n 0, 1) := by decide +kernel
theorem dX7_count_93 : decode cX7_count 93 = .ok (.invokevirtual 145, 3) := by decide +kernel
theorem dX7_count_96 : decode cX7_count 96 = .ok (.ireturn, 1) := by decide +kernel
theorem dX7_count_97 : decode cX7_count 97 = .ok (.aload_n 0, 1) := by decide +kernel
theorem dX7_count_98 : decode cX7_count 98 = .ok (.getfield 7, 3) := by decide +kernel
theorem dX7_count_101 : decode cX7_count 101 = .ok (.iconst 3, 1) := by decide +kernel
theorem dX7_count_102 : decode cX7_count 102 = .ok (.iaload, 1) := by decide +kernel
theorem dX7_count_103 : decode cX7_count 103 = .ok (.ireturn, 1) := by decide +kernel
theorem dX7_count_104 : decode cX7_count 104 = .ok (.aload_n 0, 1) := by decide +kernel
theorem dX7_count_105 : decode cX7_count 105 = .ok (.getfield 148, 3) := by decide +kernel
theorem dX7_count_108 : decode cX7_count 108 = .ok (.ireturn, 1) := by decide +kernel
theorem dX7_count_109 : decode cX7_count 109 = .ok (.aload_n 0, 1) := by decide +kernel
theorem dX7_count_110 : decode cX7_count 110 = .ok (.getfield 31, 3) := by decide +kernel
theorem dX7_count_113 : decode cX7_count 113 = .ok (.ireturn, 1) := by decide +kernel
theorem dX7_count_114 : decode cX7_count 114 = .ok (.bipush (-2), 2) := by decide +kernel
theorem dX7_count_116 : decode cX7_count 116 = .ok (.ireturn, 1) := by decide +kernel
theorem dX7_ifPassed_0 : decode cX7_ifPassed 0 = .ok (.iload_n 1, 1) := by decide +kernel
theorem dX7_ifPassed_1 : decode cX7_ifPassed 1 = .ok (.iconst 1, 1) := by decide +kernel
theorem dX7_ifPassed_2 : decode cX7_ifPassed 2 = .ok (.sipush 200, 3) := by decide +kernel
theorem dX7_ifPassed_5 : decode cX7_ifPassed 5 = .ok (.invokestatic 39, 3) := by decide +kernel
theorem dX7_ifPassed_8 : decode cX7_ifPassed 8 = .ok (.ifCond .eq 12, 3) := by decide +kernel
theorem dX7_ifPassed_11 : decode cX7_ifPassed 11 = .ok (.iload_n 2, 1) := by decide +kernel
theorem dX7_ifPassed_12 : decode cX7_ifPassed 12 = .ok (.iconst 0, 1) := by decide +kernel
theorem dX7_ifPassed_13 : decode cX7_ifPassed 13 = .ok (.iconst 2, 1) := by decide +kernel
theorem dX7_ifPassed_14 : decode cX7_ifPassed 14 = .ok (.invokestatic 39, 3) := by decide +kernel
theorem dX7_ifPassed_17 : decode cX7_ifPassed 17 = .ok (.ifCond .ne 6, 3) := by decide +kernel
theorem dX7_ifPassed_20 : decode cX7_ifPassed 20 = .ok (.bipush (-2), 2) := by decide +kernel
theorem dX7_ifPassed_22 : decode cX7_ifPassed 22 = .ok (.ireturn, 1) := by decide +kernel
theorem dX7_ifPassed_23 : decode cX7_ifPassed 23 = .ok (.aload_n 0, 1) := by decide +kernel
theorem dX7_ifPassed_24 : decode cX7_ifPassed 24 = .ok (.getfield 7, 3) := by decide +kernel
theorem dX7_ifPassed_27 : decode cX7_ifPassed 27 = .ok (.iconst 0, 1) := by decide +kernel
theorem dX7_ifPassed_28 : decode cX7_ifPassed 28 = .ok (.aload_n 0, 1) := by decide +kernel
theorem dX7_ifPassed_29 : decode cX7_ifPassed 29 = .ok (.getfield 13, 3) := by decide +kernel
theorem dX7_ifPassed_32 : decode cX7_ifPassed 32 = .ok (.iconst 0, 1) := by decide +kernel
theorem dX7_ifPassed_33 : decode cX7_ifPassed 33 = .ok (.invokestatic 35, 3) := by decide +kernel
theorem dX7_ifPassed_36 : decode cX7_ifPassed 36 = .ok (.aload_n 0, 1) := by decide +kernel
theorem dX7_ifPassed_37 : decode cX7_ifPassed 37 = .ok (.invokevirtual 145, 3) := by decide +kernel
theorem dX7_ifPassed_40 : decode cX7_ifPassed 40 = .ok (.istore_n 3, 1) := by decide +kernel
theorem dX7_ifPassed_41 : decode cX7_ifPassed 41 = .ok (.aload_n 0, 1) := by decide +kernel
theorem dX7_ifPassed_42 : decode cX7_ifPassed 42 = .ok (.iload_n 1, 1) := by decide +kernel
theorem dX7_ifPassed_43 : decode cX7_ifPassed 43 = .ok (.invokevirtual 126, 3) := by decide +kernel
theorem dX7_ifPassed_46 : decode cX7_ifPassed 46 = .ok (.istore 4, 2) := by decide +kernel
theorem dX7_ifPassed_48 : decode cX7_ifPassed 48 = .ok (.iload_n 2, 1) := by decide +kernel
theorem dX7_ifPassed_49 : decode cX7_ifPassed 49 = .ok (.ifCond .ne 8, 3) := by decide +kernel
theorem dX7_ifPassed_52 : decode cX7_ifPassed 52 = .ok (.iload 4, 2) := by decide +kernel
theorem dX7_ifPassed_54 : decode cX7_ifPassed 54 = .ok (.goto 21, 3) := by decide +kernel
theorem dX7_ifPassed_57 : decode cX7_ifPassed 57 = .ok (.iload_n 2, 1) := by decide +kernel
theorem dX7_ifPassed_58 : decode cX7_ifPassed 58 = .ok (.iconst 1, 1) := by decide +kernel
theorem dX7_ifPassed_59 : decode cX7_ifPassed 59 = .ok (.if_icmp .ne 12, 3) := by decide +kernel
theorem dX7_ifPassed_62 : decode cX7_ifPassed 62 = .ok (.aload_n 0, 1) := by decide +kernel
theorem dX7_ifPassed_63 : decode cX7_ifPassed 63 = .ok (.invokevirtual 145, 3) := by decide +kernel
theorem dX7_ifPassed_66 : decode cX7_ifPassed 66 = .ok (.iload_n 3, 1) := by decide +kernel
theorem dX7_ifPassed_67 : decode cX7_ifPassed 67 = .ok (.isub, 1) := by decide +kernel
theorem dX7_ifPassed_68 : decode cX7_ifPassed 68 = .ok (.goto 7, 3) := by decide +kernel
theorem dX7_ifPassed_71 : decode cX7_ifPassed 71 = .ok (.aload_n 0, 1) := by decide +kernel
theorem dX7_ifPassed_72 : decode cX7_ifPassed 72 = .ok (.invokevirtual 139, 3) := by decide +kernel
theorem dX7_ifPassed_75 : decode cX7_ifPassed 75 = .ok (.istore 5, 2) := by decide +kernel
theorem dX7_ifPassed_77 : decode cX7_ifPassed 77 = .ok (.aload_n 0, 1) := by decide +kernel
theorem dX7_ifPassed_78 : decode cX7_ifPassed 78 = .ok (.getfield 13, 3) := by decide +kernel
theorem dX7_ifPassed_81 : decode cX7_ifPassed 81 = .ok (.iconst 0, 1) := by decide +kernel
theorem dX7_ifPassed_82 : decode cX7_ifPassed 82 = .ok (.aload_n 0, 1) := by decide +kernel
theorem dX7_ifPassed_83 : decode cX7_ifPassed 83 = .ok (.getfield 7, 3) := by decide +kernel
theorem dX7_ifPassed_86 : decode cX7_ifPassed 86 = .ok (.iconst 0, 1) := by decide +kernel
theorem dX7_ifPassed_87 : decode cX7_ifPassed 87 = .ok (.invokestatic 35, 3) := by decide +kernel
theorem dX7_ifPassed_90 : decode cX7_ifPassed 90 = .ok (.iload 5, 2) := by decide +kernel
theorem dX7_ifPassed_92 : decode cX7_ifPassed 92 = .ok (.ireturn, 1) := by decide +kernel
theorem dX7_lowest_0 : decode cX7_lowest 0 = .ok (.bipush (-6), 2) := by decide +kernel
theorem dX7_lowest_2 : decode cX7_lowest 2 = .ok (.istore_n 1, 1) := by decide +kernel
theorem dX7_lowest_3 : decode cX7_lowest 3 = .ok (.iconst 5, 1) := by decide +kernel
theorem dX7_lowest_4 : decode cX7_lowest 4 = .ok (.istore_n 2, 1) := by decide +kernel
theorem dX7_lowest_5 : decode cX7_lowest 5 = .ok (.iload_n 2, 1) := by decide +kernel
theorem dX7_lowest_6 : decode cX7_lowest 6 = .ok (.ifCond .lt 24, 3) := by decide +kernel
theorem dX7_lowest_9 : decode cX7_lowest 9 = .ok (.iload_n 0, 1) := by decide +kernel
theorem dX7_lowest_10 : decode cX7_lowest 10 = .ok (.iload_n 2, 1) := by decide +kernel
theorem dX7_lowest_11 : decode cX7_lowest 11 = .ok (.ishr, 1) := by decide +kernel
theorem dX7_lowest_12 : decode cX7_lowest 12 = .ok (.iconst 1, 1) := by decide +kernel
theorem dX7_lowest_13 : decode cX7_lowest 13 = .ok (.iand, 1) := by decide +kernel
theorem dX7_lowest_14 : decode cX7_lowest 14 = .ok (.iconst 1, 1) := by decide +kernel
theorem dX7_lowest_15 : decode cX7_lowest 15 = .ok (.if_icmp .ne 7, 3) := by decide +kernel
theorem dX7_lowest_18 : decode cX7_lowest 18 = .ok (.iload_n 2, 1) := by decide +kernel
theorem dX7_lowest_19 : decode cX7_lowest 19 = .ok (.goto 4, 3) := by decide +kernel
theorem dX7_lowest_22 : decode cX7_lowest 22 = .ok (.iload_n 1, 1) := by decide +kernel
theorem dX7_lowest_23 : decode cX7_lowest 23 = .ok (.istore_n 1, 1) := by decide +kernel
theorem dX7_lowest_24 : decode cX7_lowest 24 = .ok (.iinc 2 (-1), 3) := by decide +kernel
theorem dX7_lowest_27 : decode cX7_lowest 27 = .ok (.goto (-22), 3) := by decide +kernel
theorem dX7_lowest_30 : decode cX7_lowest 30 = .ok (.iload_n 1, 1) := by decide +kernel
theorem dX7_lowest_31 : decode cX7_lowest 31 = .ok (.ireturn, 1) := by decide +kernel
theorem dX7_firstCut_0 : decode cX7_firstCut 0 = .ok (.iload_n 1, 1) := by decide +kernel
theorem dX7_firstCut_1 : decode cX7_firstCut 1 = .ok (.iconst 0, 1) := by decide +kernel
theorem dX7_firstCut_2 : decode cX7_firstCut 2 = .ok (.iconst 2, 1) := by decide +kernel
theorem dX7_firstCut_3 : decode cX7_firstCut 3 = .ok (.invokestatic 39, 3) := by decide +kernel
theorem dX7_firstCut_6 : decode cX7_firstCut 6 = .ok (.ifCond .ne 6, 3) := by decide +kernel
theorem dX7_firstCut_9 : decode cX7_firstCut 9 = .ok (.bipush (-2), 2) := by decide +kernel
theorem dX7_firstCut_11 : decode cX7_firstCut 11 = .ok (.ireturn, 1) := by decide +kernel
theorem dX7_firstCut_12 : decode cX7_firstCut 12 = .ok (.aload_n 0, 1) := by decide +kernel
theorem dX7_firstCut_13 : decode cX7_firstCut 13 = .ok (.getfield 7, 3) := by decide +kernel
theorem dX7_firstCut_16 : decode cX7_firstCut 16 = .ok (.iconst 0, 1) := by decide +kernel
theorem dX7_firstCut_17 : decode cX7_firstCut 17 = .ok (.aload_n 0, 1) := by decide +kernel
theorem dX7_firstCut_18 : decode cX7_firstCut 18 = .ok (.getfield 13, 3) := by decide +kernel
theorem dX7_firstCut_21 : decode cX7_firstCut 21 = .ok (.iconst 0, 1) := by decide +kernel
theorem dX7_firstCut_22 : decode cX7_firstCut 22 = .ok (.invokestatic 35, 3) := by decide +kernel
theorem dX7_firstCut_25 : decode cX7_firstCut 25 = .ok (.iconst 0, 1) := by decide +kernel
theorem dX7_firstCut_26 : decode cX7_firstCut 26 = .ok (.istore_n 2, 1) := by decide +kernel
theorem dX7_firstCut_27 : decode cX7_firstCut 27 = .ok (.aload_n 0, 1) := by decide +kernel
theorem dX7_firstCut_28 : decode cX7_firstCut 28 = .ok (.iconst 0, 1) := by decide +kernel
theorem dX7_firstCut_29 : decode cX7_firstCut 29 = .ok (.putfield 89, 3) := by decide +kernel
theorem dX7_firstCut_32 : decode cX7_firstCut 32 = .ok (.iload_n 2, 1) := by decide +kernel
theorem dX7_firstCut_33 : decode cX7_firstCut 33 = .ok (.sipush 300, 3) := by decide +kernel
theorem dX7_firstCut_36 : decode cX7_firstCut 36 = .ok (.if_icmp .ge 20, 3) := by decide +kernel
theorem dX7_firstCut_39 : decode cX7_firstCut 39 = .ok (.aload_n 0, 1) := by decide +kernel
theorem dX7_firstCut_40 : decode cX7_firstCut 40 = .ok (.getfield 89, 3) := by decide +kernel
theorem dX7_firstCut_43 : decode cX7_firstCut 43 = .ok (.ifCond .ne 13, 3) := by decide +kernel
theorem dX7_firstCut_46 : decode cX7_firstCut 46 = .ok (.aload_n 0, 1) := by decide +kernel
theorem dX7_firstCut_47 : decode cX7_firstCut 47 = .ok (.invokevirtual 108, 3) := by decide +kernel
theorem dX7_firstCut_50 : decode cX7_firstCut 50 = .ok (.iinc 2 1, 3) := by decide +kernel
theorem dX7_firstCut_53 : decode cX7_firstCut 53 = .ok (.goto (-21), 3) := by decide +kernel
theorem dX7_firstCut_56 : decode cX7_firstCut 56 = .ok (.aload_n 0, 1) := by decide +kernel
theorem dX7_firstCut_57 : decode cX7_firstCut 57 = .ok (.getfield 13, 3) := by decide +kernel
theorem dX7_firstCut_60 : decode cX7_firstCut 60 = .ok (.iconst 0, 1) := by decide +kernel
theorem dX7_firstCut_61 : decode cX7_firstCut 61 = .ok (.aload_n 0, 1) := by decide +kernel
theorem dX7_firstCut_62 : decode cX7_firstCut 62 = .ok (.getfield 7, 3) := by decide +kernel
theorem dX7_firstCut_65 : decode cX7_firstCut 65 = .ok (.iconst 0, 1) := by decide +kernel
theorem dX7_firstCut_66 : decode cX7_firstCut 66 = .ok (.invokestatic 35, 3) := by decide +kernel
theorem dX7_firstCut_69 : decode cX7_firstCut 69 = .ok (.aload_n 0, 1) := by decide +kernel
theorem dX7_firstCut_70 : decode cX7_firstCut 70 = .ok (.getfield 89, 3) := by decide +kernel
theorem dX7_firstCut_73 : decode cX7_firstCut 73 = .ok (.ifCond .ne 8, 3) := by decide +kernel
theorem dX7_firstCut_76 : decode cX7_firstCut 76 = .ok (.bipush (-6), 2) := by decide +kernel
theorem dX7_firstCut_78 : decode cX7_firstCut 78 = .ok (.goto 30, 3) := by decide +kernel
theorem dX7_firstCut_81 : decode cX7_firstCut 81 = .ok (.iload_n 1, 1) := by decide +kernel
theorem dX7_firstCut_82 : decode cX7_firstCut 82 = .ok (.ifCond .ne 7, 3) := by decide +kernel
theorem dX7_firstCut_85 : decode cX7_firstCut 85 = .ok (.iload_n 2, 1) := by decide +kernel
theorem dX7_firstCut_86 : decode cX7_firstCut 86 = .ok (.goto 22, 3) := by decide +kernel
theorem dX7_firstCut_89 : decode cX7_firstCut 89 = .ok (.iload_n 1, 1) := by decide +kernel
theorem dX7_firstCut_90 : decode cX7_firstCut 90 = .ok (.iconst 1, 1) := by decide +kernel
theorem dX7_firstCut_91 : decode cX7_firstCut 91 = .ok (.if_icmp .ne 13, 3) := by decide +kernel
theorem dX7_firstCut_94 : decode cX7_firstCut 94 = .ok (.aload_n 0, 1) := by decide +kernel
theorem dX7_firstCut_95 : decode cX7_firstCut 95 = .ok (.getfield 89, 3) := by decide +kernel
theorem dX7_firstCut_98 : decode cX7_firstCut 98 = .ok (.invokestatic 151, 3) := by decide +kernel
theorem dX7_firstCut_101 : decode cX7_firstCut 101 = .ok (.goto 7, 3) := by decide +kernel
theorem dX7_firstCut_104 : decode cX7_firstCut 104 = .ok (.aload_n 0, 1) := by decide +kernel
theorem dX7_firstCut_105 : decode cX7_firstCut 105 = .ok (.getfield 92, 3) := by decide +kernel
theorem dX7_firstCut_108 : decode cX7_firstCut 108 = .ok (.ireturn, 1) := by decide +kernel
theorem dX7_meets_0 : decode cX7_meets 0 = .ok (.aload_n 0, 1) := by decide +kernel
theorem dX7_meets_1 : decode cX7_meets 1 = .ok (.iload_n 1, 1) := by decide +kernel
theorem dX7_meets_2 : decode cX7_meets 2 = .ok (.invokevirtual 114, 3) := by decide +kernel
theorem dX7_meets_5 : decode cX7_meets 5 = .ok (.ifCond .eq 11, 3) := by decide +kernel
theorem dX7_meets_8 : decode cX7_meets 8 = .ok (.aload_n 0, 1) := by decide +kernel
theorem dX7_meets_9 : decode cX7_meets 9 = .ok (.iload_n 2, 1) := by decide +kernel
theorem dX7_meets_10 : decode cX7_meets 10 = .ok (.invokevirtual 114, 3) := by decide +kernel
theorem dX7_meets_13 : decode cX7_meets 13 = .ok (.ifCond .ne 5, 3) := by decide +kernel
theorem dX7_meets_16 : decode cX7_meets 16 = .ok (.iconst (-1), 1) := by decide +kernel
theorem dX7_meets_17 : decode cX7_meets 17 = .ok (.ireturn, 1) := by decide +kernel
theorem dX7_meets_18 : decode cX7_meets 18 = .ok (.iload_n 1, 1) := by decide +kernel
theorem dX7_meets_19 : decode cX7_meets 19 = .ok (.iload_n 2, 1) := by decide +kernel
theorem dX7_meets_20 : decode cX7_meets 20 = .ok (.if_icmp .ne 6, 3) := by decide +kernel
theorem dX7_meets_23 : decode cX7_meets 23 = .ok (.bipush (-2), 2) := by decide +kernel
theorem dX7_meets_25 : decode cX7_meets 25 = .ok (.ireturn, 1) := by decide +kernel
theorem dX7_meets_26 : decode cX7_meets 26 = .ok (.aload_n 0, 1) := by decide +kernel
theorem dX7_meets_27 : decode cX7_meets 27 = .ok (.iload_n 1, 1) := by decide +kernel
theorem dX7_meets_28 : decode cX7_meets 28 = .ok (.invokevirtual 55, 3) := by decide +kernel
theorem dX7_meets_31 : decode cX7_meets 31 = .ok (.ifCond .eq 11, 3) := by decide +kernel
theorem dX7_meets_34 : decode cX7_meets 34 = .ok (.aload_n 0, 1) := by decide +kernel
theorem dX7_meets_35 : decode cX7_meets 35 = .ok (.iload_n 2, 1) := by decide +kernel
theorem dX7_meets_36 : decode cX7_meets 36 = .ok (.invokevirtual 55, 3) := by decide +kernel
theorem dX7_meets_39 : decode cX7_meets 39 = .ok (.ifCond .ne 6, 3) := by decide +kernel
theorem dX7_meets_42 : decode cX7_meets 42 = .ok (.bipush (-5), 2) := by decide +kernel
theorem dX7_meets_44 : decode cX7_meets 44 = .ok (.ireturn, 1) := by decide +kernel
theorem dX7_meets_45 : decode cX7_meets 45 = .ok (.aload_n 0, 1) := by decide +kernel
theorem dX7_meets_46 : decode cX7_meets 46 = .ok (.iload_n 1, 1) := by decide +kernel
theorem dX7_meets_47 : decode cX7_meets 47 = .ok (.iload_n 2, 1) := by decide +kernel
theorem dX7_meets_48 : decode cX7_meets 48 = .ok (.invokevirtual 79, 3) := by decide +kernel
theorem dX7_meets_51 : decode cX7_meets 51 = .ok (.ifCond .eq 5, 3) := by decide +kernel
theorem dX7_meets_54 : decode cX7_meets 54 = .ok (.iconst 0, 1) := by decide +kernel
theorem dX7_meets_55 : decode cX7_meets 55 = .ok (.ireturn, 1) := by decide +kernel
theorem dX7_meets_56 : decode cX7_meets 56 = .ok (.aload_n 0, 1) := by decide +kernel
theorem dX7_meets_57 : decode cX7_meets 57 = .ok (.getfield 7, 3) := by decide +kernel
theorem dX7_meets_60 : decode cX7_meets 60 = .ok (.iconst 0, 1) := by decide +kernel
theorem dX7_meets_61 : decode cX7_meets 61 = .ok (.aload_n 0, 1) := by decide +kernel
theorem dX7_meets_62 : decode cX7_meets 62 = .ok (.getfield 13, 3) := by decide +kernel
theorem dX7_meets_65 : decode cX7_meets 65 = .ok (.iconst 0, 1) := by decide +kernel
theorem dX7_meets_66 : decode cX7_meets 66 = .ok (.invokestatic 35, 3) := by decide +kernel
theorem dX7_meets_69 : decode cX7_meets 69 = .ok (.iconst 0, 1) := by decide +kernel
theorem dX7_meets_70 : decode cX7_meets 70 = .ok (.istore_n 3, 1) := by decide +kernel
theorem dX7_meets_71 : decode cX7_meets 71 = .ok (.iconst 0, 1) := by decide +kernel
theorem dX7_meets_72 : decode cX7_meets 72 = .ok (.istore 4, 2) := by decide +kernel
theorem dX7_meets_74 : decode cX7_meets 74 = .ok (.iload_n 3, 1) := by decide +kernel
theorem dX7_meets_75 : decode cX7_meets 75 = .ok (.sipush 300, 3) := by decide +kernel
theorem dX7_meets_78 : decode cX7_meets 78 = .ok (.if_icmp .ge 41, 3) := by decide +kernel
theorem dX7_meets_81 : decode cX7_meets 81 = .ok (.iload 4, 2) := by decide +kernel
theorem dX7_meets_83 : decode cX7_meets 83 = .ok (.ifCond .ne 36, 3) := by decide +kernel
theorem dX7_meets_86 : decode cX7_meets 86 = .ok (.aload_n 0, 1) := by decide +kernel
theorem dX7_meets_87 : decode cX7_meets 87 = .ok (.invokevirtual 108, 3) := by decide +kernel
theorem dX7_meets_90 : decode cX7_meets 90 = .ok (.iinc 3 1, 3) := by decide +kernel
theorem dX7_meets_93 : decode cX7_meets 93 = .ok (.aload_n 0, 1) := by decide +kernel
theorem dX7_meets_94 : decode cX7_meets 94 = .ok (.getfield 28, 3) := by decide +kernel
theorem dX7_meets_97 : decode cX7_meets 97 = .ok (.bipush 6, 2) := by decide +kernel
theorem dX7_meets_99 : decode cX7_meets 99 = .ok (.iload_n 1, 1) := by decide +kernel
theorem dX7_meets_100 : decode cX7_meets 100 = .ok (.imul, 1) := by decide +kernel
theorem dX7_meets_101 : decode cX7_meets 101 = .ok (.iload_n 2, 1) := by decide +kernel
theorem dX7_meets_102 : decode cX7_meets 102 = .ok (.iadd, 1) := by decide +kernel
theorem dX7_meets_103 : decode cX7_meets 103 = .ok (.iaload, 1) := by decide +kernel
theorem dX7_meets_104 : decode cX7_meets 104 = .ok (.bipush (-6), 2) := by decide +kernel
theorem dX7_meets_106 : decode cX7_meets 106 = .ok (.if_icmp .eq 7, 3) := by decide +kernel
theorem dX7_meets_109 : decode cX7_meets 109 = .ok (.iconst 1, 1) := by decide +kernel
theorem dX7_meets_110 : decode cX7_meets 110 = .ok (.goto 4, 3) := by decide +kernel
theorem dX7_meets_113 : decode cX7_meets 113 = .ok (.iconst 0, 1) := by decide +kernel
theorem dX7_meets_114 : decode cX7_meets 114 = .ok (.istore 4, 2) := by decide +kernel
theorem dX7_meets_116 : decode cX7_meets 116 = .ok (.goto (-42), 3) := by decide +kernel
theorem dX7_meets_119 : decode cX7_meets 119 = .ok (.aload_n 0, 1) := by decide +kernel
theorem dX7_meets_120 : decode cX7_meets 120 = .ok (.getfield 13, 3) := by decide +kernel
theorem dX7_meets_123 : decode cX7_meets 123 = .ok (.iconst 0, 1) := by decide +kernel
theorem dX7_meets_124 : decode cX7_meets 124 = .ok (.aload_n 0, 1) := by decide +kernel
theorem dX7_meets_125 : decode cX7_meets 125 = .ok (.getfield 7, 3) := by decide +kernel
theorem dX7_meets_128 : decode cX7_meets 128 = .ok (.iconst 0, 1) := by decide +kernel
theorem dX7_meets_129 : decode cX7_meets 129 = .ok (.invokestatic 35, 3) := by decide +kernel
theorem dX7_meets_132 : decode cX7_meets 132 = .ok (.iload 4, 2) := by decide +kernel
theorem dX7_meets_134 : decode cX7_meets 134 = .ok (.ifCond .eq 7, 3) := by decide +kernel
theorem dX7_meets_137 : decode cX7_meets 137 = .ok (.iload_n 3, 1) := by decide +kernel
theorem dX7_meets_138 : decode cX7_meets 138 = .ok (.goto 5, 3) := by decide +kernel
theorem dX7_meets_141 : decode cX7_meets 141 = .ok (.bipush (-6), 2) := by decide +kernel
theorem dX7_meets_143 : decode cX7_meets 143 = .ok (.ireturn, 1) := by decide +kernel
theorem dX7_getsWith_0 : decode cX7_getsWith 0 = .ok (.aload_n 0, 1) := by decide +kernel
theorem dX7_getsWith_1 : decode cX7_getsWith 1 = .ok (.getfield 7, 3) := by decide +kernel
theorem dX7_getsWith_4 : decode cX7_getsWith 4 = .ok (.iconst 0, 1) := by decide +kernel
theorem dX7_getsWith_5 : decode cX7_getsWith 5 = .ok (.aload_n 0, 1) := by decide +kernel
theorem dX7_getsWith_6 : decode cX7_getsWith 6 = .ok (.getfield 13, 3) := by decide +kernel
theorem dX7_getsWith_9 : decode cX7_getsWith 9 = .ok (.iconst 0, 1) := by decide +kernel
theorem dX7_getsWith_10 : decode cX7_getsWith 10 = .ok (.invokestatic 35, 3) := by decide +kernel
theorem dX7_getsWith_13 : decode cX7_getsWith 13 = .ok (.aload_n 0, 1) := by decide +kernel
theorem dX7_getsWith_14 : decode cX7_getsWith 14 = .ok (.iload_n 1, 1) := by decide +kernel
theorem dX7_getsWith_15 : decode cX7_getsWith 15 = .ok (.iload_n 2, 1) := by decide +kernel
theorem dX7_getsWith_16 : decode cX7_getsWith 16 = .ok (.iload_n 3, 1) := by decide +kernel
theorem dX7_getsWith_17 : decode cX7_getsWith 17 = .ok (.invokevirtual 123, 3) := by decide +kernel
theorem dX7_getsWith_20 : decode cX7_getsWith 20 = .ok (.pop, 1) := by decide +kernel
theorem dX7_getsWith_21 : decode cX7_getsWith 21 = .ok (.aload_n 0, 1) := by decide +kernel
theorem dX7_getsWith_22 : decode cX7_getsWith 22 = .ok (.iload 4, 2) := by decide +kernel
theorem dX7_getsWith_24 : decode cX7_getsWith 24 = .ok (.invokevirtual 126, 3) := by decide +kernel
theorem dX7_getsWith_27 : decode cX7_getsWith 27 = .ok (.istore 5, 2) := by decide +kernel
theorem dX7_getsWith_29 : decode cX7_getsWith 29 = .ok (.aload_n 0, 1) := by decide +kernel
theorem dX7_getsWith_30 : decode cX7_getsWith 30 = .ok (.iload_n 1, 1) := by decide +kernel
theorem dX7_getsWith_31 : decode cX7_getsWith 31 = .ok (.bipush 7, 2) := by decide +kernel
theorem dX7_getsWith_33 : decode cX7_getsWith 33 = .ok (.invokevirtual 43, 3) := by decide +kernel
theorem dX7_getsWith_36 : decode cX7_getsWith 36 = .ok (.iload 5, 2) := by decide +kernel
theorem dX7_getsWith_38 : decode cX7_getsWith 38 = .ok (.iload_n 1, 1) := by decide +kernel
theorem dX7_getsWith_39 : decode cX7_getsWith 39 = .ok (.ishr, 1) := by decide +kernel
theorem dX7_getsWith_40 : decode cX7_getsWith 40 = .ok (.iconst 1, 1) := by decide +kernel
theorem dX7_getsWith_41 : decode cX7_getsWith 41 = .ok (.iand, 1) := by decide +kernel
theorem dX7_getsWith_42 : decode cX7_getsWith 42 = .ok (.iconst 1, 1) := by decide +kernel
theorem dX7_getsWith_43 : decode cX7_getsWith 43 = .ok (.if_icmp .ne 7, 3) := by decide +kernel
theorem dX7_getsWith_46 : decode cX7_getsWith 46 = .ok (.iconst 2, 1) := by decide +kernel
theorem dX7_getsWith_47 : decode cX7_getsWith 47 = .ok (.goto 4, 3) := by decide +kernel
theorem dX7_getsWith_50 : decode cX7_getsWith 50 = .ok (.iconst 0, 1) := by decide +kernel
theorem dX7_getsWith_51 : decode cX7_getsWith 51 = .ok (.isub, 1) := by decide +kernel
theorem dX7_getsWith_52 : decode cX7_getsWith 52 = .ok (.istore 6, 2) := by decide +kernel
theorem dX7_getsWith_54 : decode cX7_getsWith 54 = .ok (.aload_n 0, 1) := by decide +kernel
theorem dX7_getsWith_55 : decode cX7_getsWith 55 = .ok (.getfield 13, 3) := by decide +kernel
theorem dX7_getsWith_58 : decode cX7_getsWith 58 = .ok (.iconst 0, 1) := by decide +kernel
theorem dX7_getsWith_59 : decode cX7_getsWith 59 = .ok (.aload_n 0, 1) := by decide +kernel
theorem dX7_getsWith_60 : decode cX7_getsWith 60 = .ok (.getfield 7, 3) := by decide +kernel
theorem dX7_getsWith_63 : decode cX7_getsWith 63 = .ok (.iconst 0, 1) := by decide +kernel
theorem dX7_getsWith_64 : decode cX7_getsWith 64 = .ok (.invokestatic 35, 3) := by decide +kernel
theorem dX7_getsWith_67 : decode cX7_getsWith 67 = .ok (.iload 6, 2) := by decide +kernel
theorem dX7_getsWith_69 : decode cX7_getsWith 69 = .ok (.aload_n 0, 1) := by decide +kernel
theorem dX7_getsWith_70 : decode cX7_getsWith 70 = .ok (.iload_n 1, 1) := by decide +kernel
theorem dX7_getsWith_71 : decode cX7_getsWith 71 = .ok (.bipush 7, 2) := by decide +kernel
theorem dX7_getsWith_73 : decode cX7_getsWith 73 = .ok (.invokevirtual 43, 3) := by decide +kernel
theorem dX7_getsWith_76 : decode cX7_getsWith 76 = .ok (.isub, 1) := by decide +kernel
theorem dX7_getsWith_77 : decode cX7_getsWith 77 = .ok (.ireturn, 1) := by decide +kernel
theorem dX7_bestOrder_0 : decode cX7_bestOrder 0 = .ok (.aload_n 0, 1) := by decide +kernel
theorem dX7_bestOrder_1 : decode cX7_bestOrder 1 = .ok (.iload_n 1, 1) := by decide +kernel
theorem dX7_bestOrder_2 : decode cX7_bestOrder 2 = .ok (.invokevirtual 114, 3) := by decide +kernel
theorem dX7_bestOrder_5 : decode cX7_bestOrder 5 = .ok (.ifCond .ne 5, 3) := by decide +kernel
theorem dX7_bestOrder_8 : decode cX7_bestOrder 8 = .ok (.iconst (-1), 1) := by decide +kernel
theorem dX7_bestOrder_9 : decode cX7_bestOrder 9 = .ok (.ireturn, 1) := by decide +kernel
theorem dX7_bestOrder_10 : decode cX7_bestOrder 10 = .ok (.iload_n 2, 1) := by decide +kernel
theorem dX7_bestOrder_11 : decode cX7_bestOrder 11 = .ok (.iconst 1, 1) := by decide +kernel
theorem dX7_bestOrder_12 : decode cX7_bestOrder 12 = .ok (.bipush 50, 2) := by decide +kernel
theorem dX7_bestOrder_14 : decode cX7_bestOrder 14 = .ok (.invokestatic 39, 3) := by decide +kernel
theorem dX7_bestOrder_17 : decode cX7_bestOrder 17 = .ok (.ifCond .eq 12, 3) := by decide +kernel
theorem dX7_bestOrder_20 : decode cX7_bestOrder 20 = .ok (.iload_n 3, 1) := by decide +kernel
theorem dX7_bestOrder_21 : decode cX7_bestOrder 21 = .ok (.iconst 0, 1) := by decide +kernel
theorem dX7_bestOrder_22 : decode cX7_bestOrder 22 = .ok (.iconst 2, 1) := by decide +kernel
theorem dX7_bestOrder_23 : decode cX7_bestOrder 23 = .ok (.invokestatic 39, 3) := by decide +kernel
theorem dX7_bestOrder_26 : decode cX7_bestOrder 26 = .ok (.ifCond .ne 6, 3) := by decide +kernel
theorem dX7_bestOrder_29 : decode cX7_bestOrder 29 = .ok (.bipush (-2), 2) := by decide +kernel
theorem dX7_bestOrder_31 : decode cX7_bestOrder 31 = .ok (.ireturn, 1) := by decide +kernel
theorem dX7_bestOrder_32 : decode cX7_bestOrder 32 = .ok (.aload_n 0, 1) := by decide +kernel
theorem dX7_bestOrder_33 : decode cX7_bestOrder 33 = .ok (.iload_n 1, 1) := by decide +kernel
theorem dX7_bestOrder_34 : decode cX7_bestOrder 34 = .ok (.invokevirtual 55, 3) := by decide +kernel
theorem dX7_bestOrder_37 : decode cX7_bestOrder 37 = .ok (.ifCond .ne 6, 3) := by decide +kernel
theorem dX7_bestOrder_40 : decode cX7_bestOrder 40 = .ok (.bipush (-5), 2) := by decide +kernel
theorem dX7_bestOrder_42 : decode cX7_bestOrder 42 = .ok (.ireturn, 1) := by decide +kernel
theorem dX7_bestOrder_43 : decode cX7_bestOrder 43 = .ok (.bipush (-6), 2) := by decide +kernel
theorem dX7_bestOrder_45 : decode cX7_bestOrder 45 = .ok (.istore 4, 2) := by decide +kernel
theorem dX7_bestOrder_47 : decode cX7_bestOrder 47 = .ok (.bipush (-6), 2) := by decide +kernel
theorem dX7_bestOrder_49 : decode cX7_bestOrder 49 = .ok (.istore 5, 2) := by decide +kernel
theorem dX7_bestOrder_51 : decode cX7_bestOrder 51 = .ok (.iconst 0, 1) := by decide +kernel
theorem dX7_bestOrder_52 : decode cX7_bestOrder 52 = .ok (.istore 6, 2) := by decide +kernel
theorem dX7_bestOrder_54 : decode cX7_bestOrder 54 = .ok (.bipush (-3), 2) := by decide +kernel
theorem dX7_bestOrder_56 : decode cX7_bestOrder 56 = .ok (.istore 7, 2) := by decide +kernel
theorem dX7_bestOrder_58 : decode cX7_bestOrder 58 = .ok (.iload 7, 2) := by decide +kernel
theorem dX7_bestOrder_60 : decode cX7_bestOrder 60 = .ok (.iconst 3, 1) := by decide +kernel
theorem dX7_bestOrder_61 : decode cX7_bestOrder 61 = .ok (.if_icmp .gt 100, 3) := by decide +kernel
theorem dX7_bestOrder_64 : decode cX7_bestOrder 64 = .ok (.bipush (-3), 2) := by decide +kernel
theorem dX7_bestOrder_66 : decode cX7_bestOrder 66 = .ok (.istore 8, 2) := by decide +kernel
theorem dX7_bestOrder_68 : decode cX7_bestOrder 68 = .ok (.iload 8, 2) := by decide +kernel
theorem dX7_bestOrder_70 : decode cX7_bestOrder 70 = .ok (.iconst 3, 1) := by decide +kernel
theorem dX7_bestOrder_71 : decode cX7_bestOrder 71 = .ok (.if_icmp .gt 84, 3) := by decide +kernel
theorem dX7_bestOrder_74 : decode cX7_bestOrder 74 = .ok (.aload_n 0, 1) := by decide +kernel
theorem dX7_bestOrder_75 : decode cX7_bestOrder 75 = .ok (.iload_n 1, 1) := by decide +kernel
theorem dX7_bestOrder_76 : decode cX7_bestOrder 76 = .ok (.iload 7, 2) := by decide +kernel
theorem dX7_bestOrder_78 : decode cX7_bestOrder 78 = .ok (.iload 8, 2) := by decide +kernel
theorem dX7_bestOrder_80 : decode cX7_bestOrder 80 = .ok (.iload_n 2, 1) := by decide +kernel
theorem dX7_bestOrder_81 : decode cX7_bestOrder 81 = .ok (.invokevirtual 154, 3) := by decide +kernel
theorem dX7_bestOrder_84 : decode cX7_bestOrder 84 = .ok (.istore 9, 2) := by decide +kernel
theorem dX7_bestOrder_86 : decode cX7_bestOrder 86 = .ok (.iload 4, 2) := by decide +kernel
theorem dX7_bestOrder_88 : decode cX7_bestOrder 88 = .ok (.bipush (-6), 2) := by decide +kernel
theorem dX7_bestOrder_90 : decode cX7_bestOrder 90 = .ok (.if_icmp .eq 10, 3) := by decide +kernel
theorem dX7_bestOrder_93 : decode cX7_bestOrder 93 = .ok (.iload 9, 2) := by decide +kernel
theorem dX7_bestOrder_95 : decode cX7_bestOrder 95 = .ok (.iload 6, 2) := by decide +kernel
theorem dX7_bestOrder_97 : decode cX7_bestOrder 97 = .ok (.if_icmp .le 7, 3) := by decide +kernel
theorem dX7_bestOrder_100 : decode cX7_bestOrder 100 = .ok (.iconst 1, 1) := by decide +kernel
theorem dX7_bestOrder_101 : decode cX7_bestOrder 101 = .ok (.goto 4, 3) := by decide +kernel
theorem dX7_bestOrder_104 : decode cX7_bestOrder 104 = .ok (.iconst 0, 1) := by decide +kernel
theorem dX7_bestOrder_105 : decode cX7_bestOrder 105 = .ok (.istore 10, 2) := by decide +kernel
theorem dX7_bestOrder_107 : decode cX7_bestOrder 107 = .ok (.iload 10, 2) := by decide +kernel
theorem dX7_bestOrder_109 : decode cX7_bestOrder 109 = .ok (.ifCond .eq 8, 3) := by decide +kernel
theorem dX7_bestOrder_112 : decode cX7_bestOrder 112 = .ok (.iload 7, 2) := by decide +kernel
theorem dX7_bestOrder_114 : decode cX7_bestOrder 114 = .ok (.goto 5, 3) := by decide +kernel
theorem dX7_bestOrder_117 : decode cX7_bestOrder 117 = .ok (.iload 4, 2) := by decide +kernel
theorem dX7_bestOrder_119 : decode cX7_bestOrder 119 = .ok (.istore 4, 2) := by decide +kernel
theorem dX7_bestOrder_121 : decode cX7_bestOrder 121 = .ok (.iload 10, 2) := by decide +kernel
theorem dX7_bestOrder_123 : decode cX7_bestOrder 123 = .ok (.ifCond .eq 8, 3) := by decide +kernel
theorem dX7_bestOrder_126 : decode cX7_bestOrder 126 = .ok (.iload 8, 2) := by decide +kernel
theorem dX7_bestOrder_128 : decode cX7_bestOrder 128 = .ok (.goto 5, 3) := by decide +kernel
theorem dX7_bestOrder_131 : decode cX7_bestOrder 131 = .ok (.iload 5, 2) := by decide +kernel
theorem dX7_bestOrder_133 : decode cX7_bestOrder 133 = .ok (.istore 5, 2) := by decide +kernel
theorem dX7_bestOrder_135 : decode cX7_bestOrder 135 = .ok (.iload 10, 2) := by decide +kernel
theorem dX7_bestOrder_137 : decode cX7_bestOrder 137 = .ok (.ifCond .eq 8, 3) := by decide +kernel
theorem dX7_bestOrder_140 : decode cX7_bestOrder 140 = .ok (.iload 9, 2) := by decide +kernel
theorem dX7_bestOrder_142 : decode cX7_bestOrder 142 = .ok (.goto 5, 3) := by decide +kernel
theorem dX7_bestOrder_145 : decode cX7_bestOrder 145 = .ok (.iload 6, 2) := by decide +kernel
theorem dX7_bestOrder_147 : decode cX7_bestOrder 147 = .ok (.istore 6, 2) := by decide +kernel
theorem dX7_bestOrder_149 : decode cX7_bestOrder 149 = .ok (.iinc 8 1, 3) := by decide +kernel
theorem dX7_bestOrder_152 : decode cX7_bestOrder 152 = .ok (.goto (-84), 3) := by decide +kernel
theorem dX7_bestOrder_155 : decode cX7_bestOrder 155 = .ok (.iinc 7 1, 3) := by decide +kernel
theorem dX7_bestOrder_158 : decode cX7_bestOrder 158 = .ok (.goto (-100), 3) := by decide +kernel
theorem dX7_bestOrder_161 : decode cX7_bestOrder 161 = .ok (.iload_n 3, 1) := by decide +kernel
theorem dX7_bestOrder_162 : decode cX7_bestOrder 162 = .ok (.ifCond .ne 8, 3) := by decide +kernel
theorem dX7_bestOrder_165 : decode cX7_bestOrder 165 = .ok (.iload 4, 2) := by decide +kernel
theorem dX7_bestOrder_167 : decode cX7_bestOrder 167 = .ok (.goto 15, 3) := by decide +kernel
theorem dX7_bestOrder_170 : decode cX7_bestOrder 170 = .ok (.iload_n 3, 1) := by decide +kernel
theorem dX7_bestOrder_171 : decode cX7_bestOrder 171 = .ok (.iconst 1, 1) := by decide +kernel
theorem dX7_bestOrder_172 : decode cX7_bestOrder 172 = .ok (.if_icmp .ne 8, 3) := by decide +kernel
theorem dX7_bestOrder_175 : decode cX7_bestOrder 175 = .ok (.iload 5, 2) := by decide +kernel
theorem dX7_bestOrder_177 : decode cX7_bestOrder 177 = .ok (.goto 5, 3) := by decide +kernel
theorem dX7_bestOrder_180 : decode cX7_bestOrder 180 = .ok (.iload 6, 2) := by decide +kernel
theorem dX7_bestOrder_182 : decode cX7_bestOrder 182 = .ok (.bipush 10, 2) := by decide +kernel
theorem dX7_bestOrder_184 : decode cX7_bestOrder 184 = .ok (.iadd, 1) := by decide +kernel
theorem dX7_bestOrder_185 : decode cX7_bestOrder 185 = .ok (.ireturn, 1) := by decide +kernel
theorem dX7_put_0 : decode cX7_put 0 = .ok (.iconst 0, 1) := by decide +kernel
theorem dX7_put_1 : decode cX7_put 1 = .ok (.istore_n 3, 1) := by decide +kernel
theorem dX7_put_2 : decode cX7_put 2 = .ok (.lload_n 1, 1) := by decide +kernel
theorem dX7_put_3 : decode cX7_put 3 = .ok (.lstore 4, 2) := by decide +kernel
theorem dX7_put_5 : decode cX7_put 5 = .ok (.iconst 1, 1) := by decide +kernel
theorem dX7_put_6 : decode cX7_put 6 = .ok (.istore 6, 2) := by decide +kernel
theorem dX7_put_8 : decode cX7_put 8 = .ok (.iload_n 3, 1) := by decide +kernel
theorem dX7_put_9 : decode cX7_put 9 = .ok (.bipush 8, 2) := by decide +kernel
theorem dX7_put_11 : decode cX7_put 11 = .ok (.if_icmp .ge 56, 3) := by decide +kernel
theorem dX7_put_14 : decode cX7_put 14 = .ok (.lload 4, 2) := by decide +kernel
theorem dX7_put_16 : decode cX7_put 16 = .ok (.ldc2_w 158, 3) := by decide +kernel
theorem dX7_put_19 : decode cX7_put 19 = .ok (.land, 1) := by decide +kernel
theorem dX7_put_20 : decode cX7_put 20 = .ok (.lconst 0, 1) := by decide +kernel
theorem dX7_put_21 : decode cX7_put 21 = .ok (.lcmp, 1) := by decide +kernel
theorem dX7_put_22 : decode cX7_put 22 = .ok (.ifCond .eq 45, 3) := by decide +kernel
theorem dX7_put_25 : decode cX7_put 25 = .ok (.iload 6, 2) := by decide +kernel
theorem dX7_put_27 : decode cX7_put 27 = .ok (.ifCond .eq 24, 3) := by decide +kernel
theorem dX7_put_30 : decode cX7_put 30 = .ok (.lload 4, 2) := by decide +kernel
theorem dX7_put_32 : decode cX7_put 32 = .ok (.ldc2_w 158, 3) := by decide +kernel
theorem dX7_put_35 : decode cX7_put 35 = .ok (.land, 1) := by decide +kernel
theorem dX7_put_36 : decode cX7_put 36 = .ok (.l2i, 1) := by decide +kernel
theorem dX7_put_37 : decode cX7_put 37 = .ok (.bipush 33, 2) := by decide +kernel
theorem dX7_put_39 : decode cX7_put 39 = .ok (.bipush 126, 2) := by decide +kernel
theorem dX7_put_41 : decode cX7_put 41 = .ok (.invokestatic 39, 3) := by decide +kernel
theorem dX7_put_44 : decode cX7_put 44 = .ok (.ifCond .eq 7, 3) := by decide +kernel
theorem dX7_put_47 : decode cX7_put 47 = .ok (.iconst 1, 1) := by decide +kernel
theorem dX7_put_48 : decode cX7_put 48 = .ok (.goto 4, 3) := by decide +kernel
theorem dX7_put_51 : decode cX7_put 51 = .ok (.iconst 0, 1) := by decide +kernel
theorem dX7_put_52 : decode cX7_put 52 = .ok (.istore 6, 2) := by decide +kernel
theorem dX7_put_54 : decode cX7_put 54 = .ok (.lload 4, 2) := by decide +kernel
theorem dX7_put_56 : decode cX7_put 56 = .ok (.bipush 8, 2) := by decide +kernel
theorem dX7_put_58 : decode cX7_put 58 = .ok (.lushr, 1) := by decide +kernel
theorem dX7_put_59 : decode cX7_put 59 = .ok (.lstore 4, 2) := by decide +kernel
theorem dX7_put_61 : decode cX7_put 61 = .ok (.iinc 3 1, 3) := by decide +kernel
theorem dX7_put_64 : decode cX7_put 64 = .ok (.goto (-56), 3) := by decide +kernel
theorem dX7_put_67 : decode cX7_put 67 = .ok (.iload_n 3, 1) := by decide +kernel
theorem dX7_put_68 : decode cX7_put 68 = .ok (.ifCond .eq 15, 3) := by decide +kernel
theorem dX7_put_71 : decode cX7_put 71 = .ok (.iload 6, 2) := by decide +kernel
theorem dX7_put_73 : decode cX7_put 73 = .ok (.ifCond .eq 10, 3) := by decide +kernel
theorem dX7_put_76 : decode cX7_put 76 = .ok (.lload 4, 2) := by decide +kernel
theorem dX7_put_78 : decode cX7_put 78 = .ok (.lconst 0, 1) := by decide +kernel
theorem dX7_put_79 : decode cX7_put 79 = .ok (.lcmp, 1) := by decide +kernel
theorem dX7_put_80 : decode cX7_put 80 = .ok (.ifCond .eq 6, 3) := by decide +kernel
theorem dX7_put_83 : decode cX7_put 83 = .ok (.bipush (-2), 2) := by decide +kernel
theorem dX7_put_85 : decode cX7_put 85 = .ok (.ireturn, 1) := by decide +kernel
theorem dX7_put_86 : decode cX7_put 86 = .ok (.aload_n 0, 1) := by decide +kernel
theorem dX7_put_87 : decode cX7_put 87 = .ok (.getfield 148, 3) := by decide +kernel
theorem dX7_put_90 : decode cX7_put 90 = .ok (.iload_n 3, 1) := by decide +kernel
theorem dX7_put_91 : decode cX7_put 91 = .ok (.iadd, 1) := by decide +kernel
theorem dX7_put_92 : decode cX7_put 92 = .ok (.bipush 60, 2) := by decide +kernel
theorem dX7_put_94 : decode cX7_put 94 = .ok (.if_icmp .le 6, 3) := by decide +kernel
theorem dX7_put_97 : decode cX7_put 97 = .ok (.bipush (-4), 2) := by decide +kernel
theorem dX7_put_99 : decode cX7_put 99 = .ok (.ireturn, 1) := by decide +kernel
theorem dX7_put_100 : decode cX7_put 100 = .ok (.iload_n 3, 1) := by decide +kernel
theorem dX7_put_101 : decode cX7_put 101 = .ok (.iconst 1, 1) := by decide +kernel
theorem dX7_put_102 : decode cX7_put 102 = .ok (.isub, 1) := by decide +kernel
theorem dX7_put_103 : decode cX7_put 103 = .ok (.istore 7, 2) := by decide +kernel
theorem dX7_put_105 : decode cX7_put 105 = .ok (.iload 7, 2) := by decide +kernel
theorem dX7_put_107 : decode cX7_put 107 = .ok (.ifCond .lt 40, 3) := by decide +kernel
theorem dX7_put_110 : decode cX7_put 110 = .ok (.aload_n 0, 1) := by decide +kernel
theorem dX7_put_111 : decode cX7_put 111 = .ok (.getfield 25, 3) := by decide +kernel
theorem dX7_put_114 : decode cX7_put 114 = .ok (.aload_n 0, 1) := by decide +kernel
theorem dX7_put_115 : decode cX7_put 115 = .ok (.getfield 148, 3) := by decide +kernel
theorem dX7_put_118 : decode cX7_put 118 = .ok (.lload_n 1, 1) := by decide +kernel
theorem dX7_put_119 : decode cX7_put 119 = .ok (.bipush 8, 2) := by decide +kernel
theorem dX7_put_121 : decode cX7_put 121 = .ok (.iload 7, 2) := by decide +kernel
theorem dX7_put_123 : decode cX7_put 123 = .ok (.imul, 1) := by decide +kernel
theorem dX7_put_124 : decode cX7_put 124 = .ok (.lushr, 1) := by decide +kernel
theorem dX7_put_125 : decode cX7_put 125 = .ok (.ldc2_w 158, 3) := by decide +kernel
theorem dX7_put_128 : decode cX7_put 128 = .ok (.land, 1) := by decide +kernel
theorem dX7_put_129 : decode cX7_put 129 = .ok (.l2i, 1) := by decide +kernel
theorem dX7_put_130 : decode cX7_put 130 = .ok (.iastore, 1) := by decide +kernel
theorem dX7_put_131 : decode cX7_put 131 = .ok (.aload_n 0, 1) := by decide +kernel
theorem dX7_put_132 : decode cX7_put 132 = .ok (.dup, 1) := by decide +kernel
theorem dX7_put_133 : decode cX7_put 133 = .ok (.getfield 148, 3) := by decide +kernel
theorem dX7_put_136 : decode cX7_put 136 = .ok (.iconst 1, 1) := by decide +kernel
theorem dX7_put_137 : decode cX7_put 137 = .ok (.iadd, 1) := by decide +kernel
theorem dX7_put_138 : decode cX7_put 138 = .ok (.putfield 148, 3) := by decide +kernel
theorem dX7_put_141 : decode cX7_put 141 = .ok (.iinc 7 (-1), 3) := by decide +kernel
theorem dX7_put_144 : decode cX7_put 144 = .ok (.goto (-39), 3) := by decide +kernel
theorem dX7_put_147 : decode cX7_put 147 = .ok (.aload_n 0, 1) := by decide +kernel
theorem dX7_put_148 : decode cX7_put 148 = .ok (.getfield 148, 3) := by decide +kernel
theorem dX7_put_151 : decode cX7_put 151 = .ok (.ireturn, 1) := by decide +kernel
theorem dX7_wipe_0 : decode cX7_wipe 0 = .ok (.aload_n 0, 1) := by decide +kernel
theorem dX7_wipe_1 : decode cX7_wipe 1 = .ok (.getfield 148, 3) := by decide +kernel
theorem dX7_wipe_4 : decode cX7_wipe 4 = .ok (.istore_n 1, 1) := by decide +kernel
theorem dX7_wipe_5 : decode cX7_wipe 5 = .ok (.aload_n 0, 1) := by decide +kernel
theorem dX7_wipe_6 : decode cX7_wipe 6 = .ok (.iconst 0, 1) := by decide +kernel
theorem dX7_wipe_7 : decode cX7_wipe 7 = .ok (.putfield 148, 3) := by decide +kernel
theorem dX7_wipe_10 : decode cX7_wipe 10 = .ok (.iload_n 1, 1) := by decide +kernel
theorem dX7_wipe_11 : decode cX7_wipe 11 = .ok (.ireturn, 1) := by decide +kernel
theorem dX7_character_0 : decode cX7_character 0 = .ok (.iload_n 1, 1) := by decide +kernel
theorem dX7_character_1 : decode cX7_character 1 = .ok (.aload_n 0, 1) := by decide +kernel
theorem dX7_character_2 : decode cX7_character 2 = .ok (.getfield 148, 3) := by decide +kernel
theorem dX7_character_5 : decode cX7_character 5 = .ok (.if_icmp .ge 12, 3) := by decide +kernel
theorem dX7_character_8 : decode cX7_character 8 = .ok (.aload_n 0, 1) := by decide +kernel
theorem dX7_character_9 : decode cX7_character 9 = .ok (.getfield 25, 3) := by decide +kernel
theorem dX7_character_12 : decode cX7_character 12 = .ok (.iload_n 1, 1) := by decide +kernel
theorem dX7_character_13 : decode cX7_character 13 = .ok (.iaload, 1) := by decide +kernel
theorem dX7_character_14 : decode cX7_character 14 = .ok (.goto 4, 3) := by decide +kernel
theorem dX7_character_17 : decode cX7_character 17 = .ok (.iconst (-1), 1) := by decide +kernel
theorem dX7_character_18 : decode cX7_character 18 = .ok (.ireturn, 1) := by decide +kernel
theorem dX7_isNext_0 : decode cX7_isNext 0 = .ok (.aload_n 0, 1) := by decide +kernel
theorem dX7_isNext_1 : decode cX7_isNext 1 = .ok (.aload_n 0, 1) := by decide +kernel
theorem dX7_isNext_2 : decode cX7_isNext 2 = .ok (.getfield 160, 3) := by decide +kernel
theorem dX7_isNext_5 : decode cX7_isNext 5 = .ok (.invokevirtual 163, 3) := by decide +kernel
theorem dX7_isNext_8 : decode cX7_isNext 8 = .ok (.iload_n 1, 1) := by decide +kernel
theorem dX7_isNext_9 : decode cX7_isNext 9 = .ok (.if_icmp .ne 7, 3) := by decide +kernel
theorem dX7_isNext_12 : decode cX7_isNext 12 = .ok (.iconst 1, 1) := by decide +kernel
theorem dX7_isNext_13 : decode cX7_isNext 13 = .ok (.goto 4, 3) := by decide +kernel
theorem dX7_isNext_16 : decode cX7_isNext 16 = .ok (.iconst 0, 1) := by decide +kernel
theorem dX7_isNext_17 : decode cX7_isNext 17 = .ok (.istore_n 2, 1) := by decide +kernel
theorem dX7_isNext_18 : decode cX7_isNext 18 = .ok (.aload_n 0, 1) := by decide +kernel
theorem dX7_isNext_19 : decode cX7_isNext 19 = .ok (.dup, 1) := by decide +kernel
theorem dX7_isNext_20 : decode cX7_isNext 20 = .ok (.getfield 160, 3) := by decide +kernel
theorem dX7_isNext_23 : decode cX7_isNext 23 = .ok (.iload_n 2, 1) := by decide +kernel
theorem dX7_isNext_24 : decode cX7_isNext 24 = .ok (.ifCond .eq 7, 3) := by decide +kernel
theorem dX7_isNext_27 : decode cX7_isNext 27 = .ok (.iconst 1, 1) := by decide +kernel
theorem dX7_isNext_28 : decode cX7_isNext 28 = .ok (.goto 4, 3) := by decide +kernel
theorem dX7_isNext_31 : decode cX7_isNext 31 = .ok (.iconst 0, 1) := by decide +kernel
theorem dX7_isNext_32 : decode cX7_isNext 32 = .ok (.iadd, 1) := by decide +kernel
theorem dX7_isNext_33 : decode cX7_isNext 33 = .ok (.putfield 160, 3) := by decide +kernel
theorem dX7_isNext_36 : decode cX7_isNext 36 = .ok (.iload_n 2, 1) := by decide +kernel
theorem dX7_isNext_37 : decode cX7_isNext 37 = .ok (.ireturn, 1) := by decide +kernel
theorem dX7_takeDigit_0 : decode cX7_takeDigit 0 = .ok (.aload_n 0, 1) := by decide +kernel
theorem dX7_takeDigit_1 : decode cX7_takeDigit 1 = .ok (.aload_n 0, 1) := by decide +kernel
theorem dX7_takeDigit_2 : decode cX7_takeDigit 2 = .ok (.getfield 160, 3) := by decide +kernel
theorem dX7_takeDigit_5 : decode cX7_takeDigit 5 = .ok (.invokevirtual 163, 3) := by decide +kernel
theorem dX7_takeDigit_8 : decode cX7_takeDigit 8 = .ok (.bipush 48, 2) := by decide +kernel
theorem dX7_takeDigit_10 : decode cX7_takeDigit 10 = .ok (.isub, 1) := by decide +kernel
theorem dX7_takeDigit_11 : decode cX7_takeDigit 11 = .ok (.istore_n 3, 1) := by decide +kernel
theorem dX7_takeDigit_12 : decode cX7_takeDigit 12 = .ok (.iload_n 3, 1) := by decide +kernel
theorem dX7_takeDigit_13 : decode cX7_takeDigit 13 = .ok (.iload_n 1, 1) := by decide +kernel
theorem dX7_takeDigit_14 : decode cX7_takeDigit 14 = .ok (.iload_n 2, 1) := by decide +kernel
theorem dX7_takeDigit_15 : decode cX7_takeDigit 15 = .ok (.invokestatic 39, 3) := by decide +kernel
theorem dX7_takeDigit_18 : decode cX7_takeDigit 18 = .ok (.ifCond .ne 5, 3) := by decide +kernel
theorem dX7_takeDigit_21 : decode cX7_takeDigit 21 = .ok (.iconst (-1), 1) := by decide +kernel
theorem dX7_takeDigit_22 : decode cX7_takeDigit 22 = .ok (.ireturn, 1) := by decide +kernel
theorem dX7_takeDigit_23 : decode cX7_takeDigit 23 = .ok (.aload_n 0, 1) := by decide +kernel
theorem dX7_takeDigit_24 : decode cX7_takeDigit 24 = .ok (.dup, 1) := by decide +kernel
theorem dX7_takeDigit_25 : decode cX7_takeDigit 25 = .ok (.getfield 160, 3) := by decide +kernel
theorem dX7_takeDigit_28 : decode cX7_takeDigit 28 = .ok (.iconst 1, 1) := by decide +kernel
theorem dX7_takeDigit_29 : decode cX7_takeDigit 29 = .ok (.iadd, 1) := by decide +kernel
theorem dX7_takeDigit_30 : decode cX7_takeDigit 30 = .ok (.putfield 160, 3) := by decide +kernel
theorem dX7_takeDigit_33 : decode cX7_takeDigit 33 = .ok (.iload_n 3, 1) := by decide +kernel
theorem dX7_takeDigit_34 : decode cX7_takeDigit 34 = .ok (.ireturn, 1) := by decide +kernel
theorem dX7_takeStep_0 : decode cX7_takeStep 0 = .ok (.aload_n 0, 1) := by decide +kernel
theorem dX7_takeStep_1 : decode cX7_takeStep 1 = .ok (.bipush 48, 2) := by decide +kernel
theorem dX7_takeStep_3 : decode cX7_takeStep 3 = .ok (.invokevirtual 166, 3) := by decide +kernel
theorem dX7_takeStep_6 : decode cX7_takeStep 6 = .ok (.ifCond .eq 5, 3) := by decide +kernel
theorem dX7_takeStep_9 : decode cX7_takeStep 9 = .ok (.iconst 0, 1) := by decide +kernel
theorem dX7_takeStep_10 : decode cX7_takeStep 10 = .ok (.ireturn, 1) := by decide +kernel
theorem dX7_takeStep_11 : decode cX7_takeStep 11 = .ok (.aload_n 0, 1) := by decide +kernel
theorem dX7_takeStep_12 : decode cX7_takeStep 12 = .ok (.bipush 43, 2) := by decide +kernel
theorem dX7_takeStep_14 : decode cX7_takeStep 14 = .ok (.invokevirtual 166, 3) := by decide +kernel
theorem dX7_takeStep_17 : decode cX7_takeStep 17 = .ok (.ifCond .eq 7, 3) := by decide +kernel
theorem dX7_takeStep_20 : decode cX7_takeStep 20 = .ok (.iconst 1, 1) := by decide +kernel
theorem dX7_takeStep_21 : decode cX7_takeStep 21 = .ok (.goto 17, 3) := by decide +kernel
theorem dX7_takeStep_24 : decode cX7_takeStep 24 = .ok (.aload_n 0, 1) := by decide +kernel
theorem dX7_takeStep_25 : decode cX7_takeStep 25 = .ok (.bipush 45, 2) := by decide +kernel
theorem dX7_takeStep_27 : decode cX7_takeStep 27 = .ok (.invokevirtual 166, 3) := by decide +kernel
theorem dX7_takeStep_30 : decode cX7_takeStep 30 = .ok (.ifCond .eq 7, 3) := by decide +kernel
theorem dX7_takeStep_33 : decode cX7_takeStep 33 = .ok (.iconst (-1), 1) := by decide +kernel
theorem dX7_takeStep_34 : decode cX7_takeStep 34 = .ok (.goto 4, 3) := by decide +kernel
theorem dX7_takeStep_37 : decode cX7_takeStep 37 = .ok (.iconst 0, 1) := by decide +kernel
theorem dX7_takeStep_38 : decode cX7_takeStep 38 = .ok (.istore_n 1, 1) := by decide +kernel
theorem dX7_takeStep_39 : decode cX7_takeStep 39 = .ok (.iload_n 1, 1) := by decide +kernel
theorem dX7_takeStep_40 : decode cX7_takeStep 40 = .ok (.ifCond .ne 7, 3) := by decide +kernel
theorem dX7_takeStep_43 : decode cX7_takeStep 43 = .ok (.iconst (-1), 1) := by decide +kernel
theorem dX7_takeStep_44 : decode cX7_takeStep 44 = .ok (.goto 9, 3) := by decide +kernel
theorem dX7_takeStep_47 : decode cX7_takeStep 47 = .ok (.aload_n 0, 1) := by decide +kernel
theorem dX7_takeStep_48 : decode cX7_takeStep 48 = .ok (.iconst 1, 1) := by decide +kernel
theorem dX7_takeStep_49 : decode cX7_takeStep 49 = .ok (.iconst 3, 1) := by decide +kernel
theorem dX7_takeStep_50 : decode cX7_takeStep 50 = .ok (.invokevirtual 169, 3) := by decide +kernel
theorem dX7_takeStep_53 : decode cX7_takeStep 53 = .ok (.istore_n 2, 1) := by decide +kernel
theorem dX7_takeStep_54 : decode cX7_takeStep 54 = .ok (.iload_n 2, 1) := by decide +kernel
theorem dX7_takeStep_55 : decode cX7_takeStep 55 = .ok (.ifCond .ge 8, 3) := by decide +kernel
theorem dX7_takeStep_58 : decode cX7_takeStep 58 = .ok (.bipush (-6), 2) := by decide +kernel
theorem dX7_takeStep_60 : decode cX7_takeStep 60 = .ok (.goto 6, 3) := by decide +kernel
theorem dX7_takeStep_63 : decode cX7_takeStep 63 = .ok (.iload_n 1, 1) := by decide +kernel
theorem dX7_takeStep_64 : decode cX7_takeStep 64 = .ok (.iload_n 2, 1) := by decide +kernel
theorem dX7_takeStep_65 : decode cX7_takeStep 65 = .ok (.imul, 1) := by decide +kernel
theorem dX7_takeStep_66 : decode cX7_takeStep 66 = .ok (.ireturn, 1) := by decide +kernel
theorem dX7_readsOrder_0 : decode cX7_readsOrder 0 = .ok (.aload_n 0, 1) := by decide +kernel
theorem dX7_readsOrder_1 : decode cX7_readsOrder 1 = .ok (.aload_n 0, 1) := by decide +kernel
theorem dX7_readsOrder_2 : decode cX7_readsOrder 2 = .ok (.iconst 0, 1) := by decide +kernel
theorem dX7_readsOrder_3 : decode cX7_readsOrder 3 = .ok (.iconst 5, 1) := by decide +kernel
theorem dX7_readsOrder_4 : decode cX7_readsOrder 4 = .ok (.invokevirtual 169, 3) := by decide +kernel
theorem dX7_readsOrder_7 : decode cX7_readsOrder 7 = .ok (.putfield 172, 3) := by decide +kernel
theorem dX7_readsOrder_10 : decode cX7_readsOrder 10 = .ok (.aload_n 0, 1) := by decide +kernel
theorem dX7_readsOrder_11 : decode cX7_readsOrder 11 = .ok (.aload_n 0, 1) := by decide +kernel
theorem dX7_readsOrder_12 : decode cX7_readsOrder 12 = .ok (.getfield 172, 3) := by decide +kernel
theorem dX7_readsOrder_15 : decode cX7_readsOrder 15 = .ok (.ifCond .lt 19, 3) := by decide +kernel
theorem dX7_readsOrder_18 : decode cX7_readsOrder 18 = .ok (.aload_n 0, 1) := by decide +kernel
theorem dX7_readsOrder_19 : decode cX7_readsOrder 19 = .ok (.bipush 58, 2) := by decide +kernel
theorem dX7_readsOrder_21 : decode cX7_readsOrder 21 = .ok (.invokevirtual 166, 3) := by decide +kernel
theorem dX7_readsOrder_24 : decode cX7_readsOrder 24 = .ok (.ifCond .eq 10, 3) := by decide +kernel
theorem dX7_readsOrder_27 : decode cX7_readsOrder 27 = .ok (.aload_n 0, 1) := by decide +kernel
theorem dX7_readsOrder_28 : decode cX7_readsOrder 28 = .ok (.invokevirtual 175, 3) := by decide +kernel
theorem dX7_readsOrder_31 : decode cX7_readsOrder 31 = .ok (.goto 5, 3) := by decide +kernel
theorem dX7_readsOrder_34 : decode cX7_readsOrder 34 = .ok (.bipush (-6), 2) := by decide +kernel
theorem dX7_readsOrder_36 : decode cX7_readsOrder 36 = .ok (.putfield 178, 3) := by decide +kernel
theorem dX7_readsOrder_39 : decode cX7_readsOrder 39 = .ok (.aload_n 0, 1) := by decide +kernel
theorem dX7_readsOrder_40 : decode cX7_readsOrder 40 = .ok (.aload_n 0, 1) := by decide +kernel
theorem dX7_readsOrder_41 : decode cX7_readsOrder 41 = .ok (.getfield 178, 3) := by decide +kernel
theorem dX7_readsOrder_44 : decode cX7_readsOrder 44 = .ok (.bipush (-6), 2) := by decide +kernel
theorem dX7_readsOrder_46 : decode cX7_readsOrder 46 = .ok (.if_icmp .ne 8, 3) := by decide +kernel
theorem dX7_readsOrder_49 : decode cX7_readsOrder 49 = .ok (.bipush (-6), 2) := by decide +kernel
theorem dX7_readsOrder_51 : decode cX7_readsOrder 51 = .ok (.goto 7, 3) := by decide +kernel
theorem dX7_readsOrder_54 : decode cX7_readsOrder 54 = .ok (.aload_n 0, 1) := by decide +kernel
theorem dX7_readsOrder_55 : decode cX7_readsOrder 55 = .ok (.invokevirtual 175, 3) := by decide +kernel
theorem dX7_readsOrder_58 : decode cX7_readsOrder 58 = .ok (.putfield 181, 3) := by decide +kernel
theorem dX7_readsOrder_61 : decode cX7_readsOrder 61 = .ok (.aload_n 0, 1) := by decide +kernel
theorem dX7_readsOrder_62 : decode cX7_readsOrder 62 = .ok (.getfield 181, 3) := by decide +kernel
theorem dX7_readsOrder_65 : decode cX7_readsOrder 65 = .ok (.bipush (-6), 2) := by decide +kernel
theorem dX7_readsOrder_67 : decode cX7_readsOrder 67 = .ok (.if_icmp .eq 7, 3) := by decide +kernel
theorem dX7_readsOrder_70 : decode cX7_readsOrder 70 = .ok (.iconst 1, 1) := by decide +kernel
theorem dX7_readsOrder_71 : decode cX7_readsOrder 71 = .ok (.goto 4, 3) := by decide +kernel
theorem dX7_readsOrder_74 : decode cX7_readsOrder 74 = .ok (.iconst 0, 1) := by decide +kernel
theorem dX7_readsOrder_75 : decode cX7_readsOrder 75 = .ok (.ireturn, 1) := by decide +kernel
theorem dX7_findFault_0 : decode cX7_findFault 0 = .ok (.aload_n 0, 1) := by decide +kernel
theorem dX7_findFault_1 : decode cX7_findFault 1 = .ok (.iconst 0, 1) := by decide +kernel
theorem dX7_findFault_2 : decode cX7_findFault 2 = .ok (.putfield 160, 3) := by decide +kernel
theorem dX7_findFault_5 : decode cX7_findFault 5 = .ok (.aload_n 0, 1) := by decide +kernel
theorem dX7_findFault_6 : decode cX7_findFault 6 = .ok (.invokevirtual 184, 3) := by decide +kernel
theorem dX7_findFault_9 : decode cX7_findFault 9 = .ok (.ifCond .ne 8, 3) := by decide +kernel
theorem dX7_findFault_12 : decode cX7_findFault 12 = .ok (.aload_n 0, 1) := by decide +kernel
theorem dX7_findFault_13 : decode cX7_findFault 13 = .ok (.getfield 160, 3) := by decide +kernel
theorem dX7_findFault_16 : decode cX7_findFault 16 = .ok (.ireturn, 1) := by decide +kernel
theorem dX7_findFault_17 : decode cX7_findFault 17 = .ok (.aload_n 0, 1) := by decide +kernel
theorem dX7_findFault_18 : decode cX7_findFault 18 = .ok (.getfield 160, 3) := by decide +kernel
theorem dX7_findFault_21 : decode cX7_findFault 21 = .ok (.aload_n 0, 1) := by decide +kernel
theorem dX7_findFault_22 : decode cX7_findFault 22 = .ok (.getfield 148, 3) := by decide +kernel
theorem dX7_findFault_25 : decode cX7_findFault 25 = .ok (.if_icmp .ne 6, 3) := by decide +kernel
theorem dX7_findFault_28 : decode cX7_findFault 28 = .ok (.bipush (-6), 2) := by decide +kernel
theorem dX7_findFault_30 : decode cX7_findFault 30 = .ok (.ireturn, 1) := by decide +kernel
theorem dX7_findFault_31 : decode cX7_findFault 31 = .ok (.aload_n 0, 1) := by decide +kernel
theorem dX7_findFault_32 : decode cX7_findFault 32 = .ok (.bipush 59, 2) := by decide +kernel
theorem dX7_findFault_34 : decode cX7_findFault 34 = .ok (.invokevirtual 166, 3) := by decide +kernel
theorem dX7_findFault_37 : decode cX7_findFault 37 = .ok (.ifCond .ne (-32), 3) := by decide +kernel
theorem dX7_findFault_40 : decode cX7_findFault 40 = .ok (.aload_n 0, 1) := by decide +kernel
theorem dX7_findFault_41 : decode cX7_findFault 41 = .ok (.getfield 160, 3) := by decide +kernel
theorem dX7_findFault_44 : decode cX7_findFault 44 = .ok (.ireturn, 1) := by decide +kernel
theorem dX7_fault_0 : decode cX7_fault 0 = .ok (.aload_n 0, 1) := by decide +kernel
theorem dX7_fault_1 : decode cX7_fault 1 = .ok (.invokevirtual 188, 3) := by decide +kernel
theorem dX7_fault_4 : decode cX7_fault 4 = .ok (.ireturn, 1) := by decide +kernel
theorem dX7_carryOut_0 : decode cX7_carryOut 0 = .ok (.aload_n 0, 1) := by decide +kernel
theorem dX7_carryOut_1 : decode cX7_carryOut 1 = .ok (.invokevirtual 188, 3) := by decide +kernel
theorem dX7_carryOut_4 : decode cX7_carryOut 4 = .ok (.bipush (-6), 2) := by decide +kernel
theorem dX7_carryOut_6 : decode cX7_carryOut 6 = .ok (.if_icmp .eq 6, 3) := by decide +kernel
theorem dX7_carryOut_9 : decode cX7_carryOut 9 = .ok (.bipush (-3), 2) := by decide +kernel
theorem dX7_carryOut_11 : decode cX7_carryOut 11 = .ok (.ireturn, 1) := by decide +kernel
theorem dX7_carryOut_12 : decode cX7_carryOut 12 = .ok (.aload_n 0, 1) := by decide +kernel
theorem dX7_carryOut_13 : decode cX7_carryOut 13 = .ok (.invokevirtual 111, 3) := by decide +kernel
theorem dX7_carryOut_16 : decode cX7_carryOut 16 = .ok (.iconst 0, 1) := by decide +kernel
theorem dX7_carryOut_17 : decode cX7_carryOut 17 = .ok (.istore_n 1, 1) := by decide +kernel
theorem dX7_carryOut_18 : decode cX7_carryOut 18 = .ok (.aload_n 0, 1) := by decide +kernel
theorem dX7_carryOut_19 : decode cX7_carryOut 19 = .ok (.iconst 0, 1) := by decide +kernel
theorem dX7_carryOut_20 : decode cX7_carryOut 20 = .ok (.putfield 160, 3) := by decide +kernel
theorem dX7_carryOut_23 : decode cX7_carryOut 23 = .ok (.iconst 1, 1) := by decide +kernel
theorem dX7_carryOut_24 : decode cX7_carryOut 24 = .ok (.istore_n 2, 1) := by decide +kernel
theorem dX7_carryOut_25 : decode cX7_carryOut 25 = .ok (.iload_n 2, 1) := by decide +kernel
theorem dX7_carryOut_26 : decode cX7_carryOut 26 = .ok (.ifCond .eq 78, 3) := by decide +kernel
theorem dX7_carryOut_29 : decode cX7_carryOut 29 = .ok (.aload_n 0, 1) := by decide +kernel
theorem dX7_carryOut_30 : decode cX7_carryOut 30 = .ok (.getfield 160, 3) := by decide +kernel
theorem dX7_carryOut_33 : decode cX7_carryOut 33 = .ok (.aload_n 0, 1) := by decide +kernel
theorem dX7_carryOut_34 : decode cX7_carryOut 34 = .ok (.getfield 148, 3) := by decide +kernel
theorem dX7_carryOut_37 : decode cX7_carryOut 37 = .ok (.if_icmp .ge 67, 3) := by decide +kernel
theorem dX7_carryOut_40 : decode cX7_carryOut 40 = .ok (.aload_n 0, 1) := by decide +kernel
theorem dX7_carryOut_41 : decode cX7_carryOut 41 = .ok (.invokevirtual 184, 3) := by decide +kernel
theorem dX7_carryOut_44 : decode cX7_carryOut 44 = .ok (.pop, 1) := by decide +kernel
theorem dX7_carryOut_45 : decode cX7_carryOut 45 = .ok (.aload_n 0, 1) := by decide +kernel
theorem dX7_carryOut_46 : decode cX7_carryOut 46 = .ok (.bipush 59, 2) := by decide +kernel
theorem dX7_carryOut_48 : decode cX7_carryOut 48 = .ok (.invokevirtual 166, 3) := by decide +kernel
theorem dX7_carryOut_51 : decode cX7_carryOut 51 = .ok (.pop, 1) := by decide +kernel
theorem dX7_carryOut_52 : decode cX7_carryOut 52 = .ok (.aload_n 0, 1) := by decide +kernel
theorem dX7_carryOut_53 : decode cX7_carryOut 53 = .ok (.aload_n 0, 1) := by decide +kernel
theorem dX7_carryOut_54 : decode cX7_carryOut 54 = .ok (.getfield 172, 3) := by decide +kernel
theorem dX7_carryOut_57 : decode cX7_carryOut 57 = .ok (.aload_n 0, 1) := by decide +kernel
theorem dX7_carryOut_58 : decode cX7_carryOut 58 = .ok (.getfield 178, 3) := by decide +kernel
theorem dX7_carryOut_61 : decode cX7_carryOut 61 = .ok (.aload_n 0, 1) := by decide +kernel
theorem dX7_carryOut_62 : decode cX7_carryOut 62 = .ok (.getfield 181, 3) := by decide +kernel
theorem dX7_carryOut_65 : decode cX7_carryOut 65 = .ok (.invokevirtual 120, 3) := by decide +kernel
theorem dX7_carryOut_68 : decode cX7_carryOut 68 = .ok (.ifCond .ne 7, 3) := by decide +kernel
theorem dX7_carryOut_71 : decode cX7_carryOut 71 = .ok (.iconst 1, 1) := by decide +kernel
theorem dX7_carryOut_72 : decode cX7_carryOut 72 = .ok (.goto 4, 3) := by decide +kernel
theorem dX7_carryOut_75 : decode cX7_carryOut 75 = .ok (.iconst 0, 1) := by decide +kernel
theorem dX7_carryOut_76 : decode cX7_carryOut 76 = .ok (.istore_n 2, 1) := by decide +kernel
theorem dX7_carryOut_77 : decode cX7_carryOut 77 = .ok (.iload_n 2, 1) := by decide +kernel
theorem dX7_carryOut_78 : decode cX7_carryOut 78 = .ok (.ifCond .eq (-53), 3) := by decide +kernel
theorem dX7_carryOut_81 : decode cX7_carryOut 81 = .ok (.aload_n 0, 1) := by decide +kernel
theorem dX7_carryOut_82 : decode cX7_carryOut 82 = .ok (.aload_n 0, 1) := by decide +kernel
theorem dX7_carryOut_83 : decode cX7_carryOut 83 = .ok (.getfield 172, 3) := by decide +kernel
theorem dX7_carryOut_86 : decode cX7_carryOut 86 = .ok (.aload_n 0, 1) := by decide +kernel
theorem dX7_carryOut_87 : decode cX7_carryOut 87 = .ok (.getfield 178, 3) := by decide +kernel
theorem dX7_carryOut_90 : decode cX7_carryOut 90 = .ok (.aload_n 0, 1) := by decide +kernel
theorem dX7_carryOut_91 : decode cX7_carryOut 91 = .ok (.getfield 181, 3) := by decide +kernel
theorem dX7_carryOut_94 : decode cX7_carryOut 94 = .ok (.invokevirtual 123, 3) := by decide +kernel
theorem dX7_carryOut_97 : decode cX7_carryOut 97 = .ok (.pop, 1) := by decide +kernel
theorem dX7_carryOut_98 : decode cX7_carryOut 98 = .ok (.iinc 1 1, 3) := by decide +kernel
theorem dX7_carryOut_101 : decode cX7_carryOut 101 = .ok (.goto (-76), 3) := by decide +kernel
theorem dX7_carryOut_104 : decode cX7_carryOut 104 = .ok (.aload_n 0, 1) := by decide +kernel
theorem dX7_carryOut_105 : decode cX7_carryOut 105 = .ok (.iconst 0, 1) := by decide +kernel
theorem dX7_carryOut_106 : decode cX7_carryOut 106 = .ok (.putfield 148, 3) := by decide +kernel
theorem dX7_carryOut_109 : decode cX7_carryOut 109 = .ok (.iload_n 1, 1) := by decide +kernel
theorem dX7_carryOut_110 : decode cX7_carryOut 110 = .ok (.ireturn, 1) := by decide +kernel
theorem dX7_undo_0 : decode cX7_undo 0 = .ok (.aload_n 0, 1) := by decide +kernel
theorem dX7_undo_1 : decode cX7_undo 1 = .ok (.getfield 31, 3) := by decide +kernel
theorem dX7_undo_4 : decode cX7_undo 4 = .ok (.ifCond .ne 6, 3) := by decide +kernel
theorem dX7_undo_7 : decode cX7_undo 7 = .ok (.bipush (-5), 2) := by decide +kernel
theorem dX7_undo_9 : decode cX7_undo 9 = .ok (.ireturn, 1) := by decide +kernel
theorem dX7_undo_10 : decode cX7_undo 10 = .ok (.aload_n 0, 1) := by decide +kernel
theorem dX7_undo_11 : decode cX7_undo 11 = .ok (.dup, 1) := by decide +kernel
theorem dX7_undo_12 : decode cX7_undo 12 = .ok (.getfield 31, 3) := by decide +kernel
theorem dX7_undo_15 : decode cX7_undo 15 = .ok (.iconst 1, 1) := by decide +kernel
theorem dX7_undo_16 : decode cX7_undo 16 = .ok (.isub, 1) := by decide +kernel
theorem dX7_undo_17 : decode cX7_undo 17 = .ok (.putfield 31, 3) := by decide +kernel
theorem dX7_undo_20 : decode cX7_undo 20 = .ok (.aload_n 0, 1) := by decide +kernel
theorem dX7_undo_21 : decode cX7_undo 21 = .ok (.getfield 16, 3) := by decide +kernel
theorem dX7_undo_24 : decode cX7_undo 24 = .ok (.aload_n 0, 1) := by decide +kernel
theorem dX7_undo_25 : decode cX7_undo 25 = .ok (.getfield 31, 3) := by decide +kernel
theorem dX7_undo_28 : decode cX7_undo 28 = .ok (.sipush 268, 3) := by decide +kernel
theorem dX7_undo_31 : decode cX7_undo 31 = .ok (.imul, 1) := by decide +kernel
theorem dX7_undo_32 : decode cX7_undo 32 = .ok (.aload_n 0, 1) := by decide +kernel
theorem dX7_undo_33 : decode cX7_undo 33 = .ok (.getfield 7, 3) := by decide +kernel
theorem dX7_undo_36 : decode cX7_undo 36 = .ok (.iconst 0, 1) := by decide +kernel
theorem dX7_undo_37 : decode cX7_undo 37 = .ok (.invokestatic 35, 3) := by decide +kernel
theorem dX7_undo_40 : decode cX7_undo 40 = .ok (.aload_n 0, 1) := by decide +kernel
theorem dX7_undo_41 : decode cX7_undo 41 = .ok (.getfield 31, 3) := by decide +kernel
theorem dX7_undo_44 : decode cX7_undo 44 = .ok (.ireturn, 1) := by decide +kernel
theorem dX7_save_0 : decode cX7_save 0 = .ok (.iload_n 1, 1) := by decide +kernel
theorem dX7_save_1 : decode cX7_save 1 = .ok (.iconst 0, 1) := by decide +kernel
theorem dX7_save_2 : decode cX7_save 2 = .ok (.iconst 1, 1) := by decide +kernel
theorem dX7_save_3 : decode cX7_save 3 = .ok (.invokestatic 39, 3) := by decide +kernel
theorem dX7_save_6 : decode cX7_save 6 = .ok (.ifCond .ne 6, 3) := by decide +kernel
theorem dX7_save_9 : decode cX7_save 9 = .ok (.bipush (-2), 2) := by decide +kernel
theorem dX7_save_11 : decode cX7_save 11 = .ok (.ireturn, 1) := by decide +kernel
theorem dX7_save_12 : decode cX7_save 12 = .ok (.aload_n 0, 1) := by decide +kernel
theorem dX7_save_13 : decode cX7_save 13 = .ok (.getfield 7, 3) := by decide +kernel
theorem dX7_save_16 : decode cX7_save 16 = .ok (.iconst 0, 1) := by decide +kernel
theorem dX7_save_17 : decode cX7_save 17 = .ok (.aload_n 0, 1) := by decide +kernel
theorem dX7_save_18 : decode cX7_save 18 = .ok (.getfield 19, 3) := by decide +kernel
theorem dX7_save_21 : decode cX7_save 21 = .ok (.sipush 268, 3) := by decide +kernel
theorem dX7_save_24 : decode cX7_save 24 = .ok (.iload_n 1, 1) := by decide +kernel
theorem dX7_save_25 : decode cX7_save 25 = .ok (.imul, 1) := by decide +kernel
theorem dX7_save_26 : decode cX7_save 26 = .ok (.invokestatic 35, 3) := by decide +kernel
theorem dX7_save_29 : decode cX7_save 29 = .ok (.aload_n 0, 1) := by decide +kernel
theorem dX7_save_30 : decode cX7_save 30 = .ok (.getfield 22, 3) := by decide +kernel
theorem dX7_save_33 : decode cX7_save 33 = .ok (.iload_n 1, 1) := by decide +kernel
theorem dX7_save_34 : decode cX7_save 34 = .ok (.iconst 1, 1) := by decide +kernel
theorem dX7_save_35 : decode cX7_save 35 = .ok (.iastore, 1) := by decide +kernel
theorem dX7_save_36 : decode cX7_save 36 = .ok (.aload_n 0, 1) := by decide +kernel
theorem dX7_save_37 : decode cX7_save 37 = .ok (.getfield 7, 3) := by decide +kernel
theorem dX7_save_40 : decode cX7_save 40 = .ok (.iconst 0, 1) := by decide +kernel
theorem dX7_save_41 : decode cX7_save 41 = .ok (.iaload, 1) := by decide +kernel
theorem dX7_save_42 : decode cX7_save 42 = .ok (.ireturn, 1) := by decide +kernel
theorem dX7_restore_0 : decode cX7_restore 0 = .ok (.iload_n 1, 1) := by decide +kernel
theorem dX7_restore_1 : decode cX7_restore 1 = .ok (.iconst 0, 1) := by decide +kernel
theorem dX7_restore_2 : decode cX7_restore 2 = .ok (.iconst 1, 1) := by decide +kernel
theorem dX7_restore_3 : decode cX7_restore 3 = .ok (.invokestatic 39, 3) := by decide +kernel
theorem dX7_restore_6 : decode cX7_restore 6 = .ok (.ifCond .ne 6, 3) := by decide +kernel
theorem dX7_restore_9 : decode cX7_restore 9 = .ok (.bipush (-2), 2) := by decide +kernel
theorem dX7_restore_11 : decode cX7_restore 11 = .ok (.ireturn, 1) := by decide +kernel
theorem dX7_restore_12 : decode cX7_restore 12 = .ok (.aload_n 0, 1) := by decide +kernel
theorem dX7_restore_13 : decode cX7_restore 13 = .ok (.getfield 22, 3) := by decide +kernel
theorem dX7_restore_16 : decode cX7_restore 16 = .ok (.iload_n 1, 1) := by decide +kernel
theorem dX7_restore_17 : decode cX7_restore 17 = .ok (.iaload, 1) := by decide +kernel
theorem dX7_restore_18 : decode cX7_restore 18 = .ok (.ifCond .ne 6, 3) := by decide +kernel
theorem dX7_restore_21 : decode cX7_restore 21 = .ok (.bipush (-5), 2) := by decide +kernel
theorem dX7_restore_23 : decode cX7_restore 23 = .ok (.ireturn, 1) := by decide +kernel
theorem dX7_restore_24 : decode cX7_restore 24 = .ok (.aload_n 0, 1) := by decide +kernel
theorem dX7_restore_25 : decode cX7_restore 25 = .ok (.invokevirtual 111, 3) := by decide +kernel
theorem dX7_restore_28 : decode cX7_restore 28 = .ok (.aload_n 0, 1) := by decide +kernel
theorem dX7_restore_29 : decode cX7_restore 29 = .ok (.getfield 19, 3) := by decide +kernel
theorem dX7_restore_32 : decode cX7_restore 32 = .ok (.sipush 268, 3) := by decide +kernel
theorem dX7_restore_35 : decode cX7_restore 35 = .ok (.iload_n 1, 1) := by decide +kernel
theorem dX7_restore_36 : decode cX7_restore 36 = .ok (.imul, 1) := by decide +kernel
theorem dX7_restore_37 : decode cX7_restore 37 = .ok (.aload_n 0, 1) := by decide +kernel
theorem dX7_restore_38 : decode cX7_restore 38 = .ok (.getfield 7, 3) := by decide +kernel
theorem dX7_restore_41 : decode cX7_restore 41 = .ok (.iconst 0, 1) := by decide +kernel
theorem dX7_restore_42 : decode cX7_restore 42 = .ok (.invokestatic 35, 3) := by decide +kernel
theorem dX7_restore_45 : decode cX7_restore 45 = .ok (.aload_n 0, 1) := by decide +kernel
theorem dX7_restore_46 : decode cX7_restore 46 = .ok (.getfield 7, 3) := by decide +kernel
theorem dX7_restore_49 : decode cX7_restore 49 = .ok (.iconst 0, 1) := by decide +kernel
theorem dX7_restore_50 : decode cX7_restore 50 = .ok (.iaload, 1) := by decide +kernel
theorem dX7_restore_51 : decode cX7_restore 51 = .ok (.ireturn, 1) := by decide +kernel
