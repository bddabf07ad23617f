theorem dM_one_0 : decode bM_one 0 = .ok (.iload_n 1, 1) := by decide +kernel
theorem dM_one_1 : decode bM_one 1 = .ok (.bipush 33, 2) := by decide +kernel
theorem dM_one_3 : decode bM_one 3 = .ok (.if_icmp .ne 18, 3) := by decide +kernel
theorem dM_one_6 : decode bM_one 6 = .ok (.aload_n 0, 1) := by decide +kernel
theorem dM_one_7 : decode bM_one 7 = .ok (.iconst 3, 1) := by decide +kernel
theorem dM_one_8 : decode bM_one 8 = .ok (.invokevirtual 90, 3) := by decide +kernel
theorem dM_one_11 : decode bM_one 11 = .ok (.ifCond .eq 7, 3) := by decide +kernel
theorem dM_one_14 : decode bM_one 14 = .ok (.iconst 0, 1) := by decide +kernel
theorem dM_one_15 : decode bM_one 15 = .ok (.goto 5, 3) := by decide +kernel
theorem dM_one_18 : decode bM_one 18 = .ok (.bipush 10, 2) := by decide +kernel
theorem dM_one_20 : decode bM_one 20 = .ok (.ireturn, 1) := by decide +kernel
theorem dM_one_21 : decode bM_one 21 = .ok (.iload_n 1, 1) := by decide +kernel
theorem dM_one_22 : decode bM_one 22 = .ok (.bipush 40, 2) := by decide +kernel
theorem dM_one_24 : decode bM_one 24 = .ok (.if_icmp .ne 18, 3) := by decide +kernel
theorem dM_one_27 : decode bM_one 27 = .ok (.aload_n 0, 1) := by decide +kernel
theorem dM_one_28 : decode bM_one 28 = .ok (.iconst 4, 1) := by decide +kernel
theorem dM_one_29 : decode bM_one 29 = .ok (.invokevirtual 90, 3) := by decide +kernel
theorem dM_one_32 : decode bM_one 32 = .ok (.ifCond .eq 7, 3) := by decide +kernel
theorem dM_one_35 : decode bM_one 35 = .ok (.iconst 0, 1) := by decide +kernel
theorem dM_one_36 : decode bM_one 36 = .ok (.goto 5, 3) := by decide +kernel
theorem dM_one_39 : decode bM_one 39 = .ok (.bipush 10, 2) := by decide +kernel
theorem dM_one_41 : decode bM_one 41 = .ok (.ireturn, 1) := by decide +kernel
theorem dM_one_42 : decode bM_one 42 = .ok (.iload_n 1, 1) := by decide +kernel
theorem dM_one_43 : decode bM_one 43 = .ok (.bipush 65, 2) := by decide +kernel
theorem dM_one_45 : decode bM_one 45 = .ok (.if_icmp .eq 9, 3) := by decide +kernel
theorem dM_one_48 : decode bM_one 48 = .ok (.iload_n 1, 1) := by decide +kernel
theorem dM_one_49 : decode bM_one 49 = .ok (.bipush 69, 2) := by decide +kernel
theorem dM_one_51 : decode bM_one 51 = .ok (.if_icmp .ne 42, 3) := by decide +kernel
theorem dM_one_54 : decode bM_one 54 = .ok (.aload_n 0, 1) := by decide +kernel
theorem dM_one_55 : decode bM_one 55 = .ok (.iload_n 1, 1) := by decide +kernel
theorem dM_one_56 : decode bM_one 56 = .ok (.bipush 65, 2) := by decide +kernel
theorem dM_one_58 : decode bM_one 58 = .ok (.if_icmp .ne 7, 3) := by decide +kernel
theorem dM_one_61 : decode bM_one 61 = .ok (.iconst 1, 1) := by decide +kernel
theorem dM_one_62 : decode bM_one 62 = .ok (.goto 4, 3) := by decide +kernel
theorem dM_one_65 : decode bM_one 65 = .ok (.iconst 0, 1) := by decide +kernel
theorem dM_one_66 : decode bM_one 66 = .ok (.putfield 94, 3) := by decide +kernel
theorem dM_one_69 : decode bM_one 69 = .ok (.aload_n 0, 1) := by decide +kernel
theorem dM_one_70 : decode bM_one 70 = .ok (.getfield 98, 3) := by decide +kernel
theorem dM_one_73 : decode bM_one 73 = .ok (.iconst 4, 1) := by decide +kernel
theorem dM_one_74 : decode bM_one 74 = .ok (.if_icmp .ge 16, 3) := by decide +kernel
theorem dM_one_77 : decode bM_one 77 = .ok (.aload_n 0, 1) := by decide +kernel
theorem dM_one_78 : decode bM_one 78 = .ok (.getfield 75, 3) := by decide +kernel
theorem dM_one_81 : decode bM_one 81 = .ok (.bipush 12, 2) := by decide +kernel
theorem dM_one_83 : decode bM_one 83 = .ok (.if_icmp .ge 7, 3) := by decide +kernel
theorem dM_one_86 : decode bM_one 86 = .ok (.iconst 2, 1) := by decide +kernel
theorem dM_one_87 : decode bM_one 87 = .ok (.goto 5, 3) := by decide +kernel
theorem dM_one_90 : decode bM_one 90 = .ok (.bipush 10, 2) := by decide +kernel
theorem dM_one_92 : decode bM_one 92 = .ok (.ireturn, 1) := by decide +kernel
theorem dM_one_93 : decode bM_one 93 = .ok (.aload_n 0, 1) := by decide +kernel
theorem dM_one_94 : decode bM_one 94 = .ok (.iconst 0, 1) := by decide +kernel
theorem dM_one_95 : decode bM_one 95 = .ok (.putfield 101, 3) := by decide +kernel
theorem dM_one_98 : decode bM_one 98 = .ok (.iload_n 1, 1) := by decide +kernel
theorem dM_one_99 : decode bM_one 99 = .ok (.bipush 91, 2) := by decide +kernel
theorem dM_one_101 : decode bM_one 101 = .ok (.if_icmp .ne 12, 3) := by decide +kernel
theorem dM_one_104 : decode bM_one 104 = .ok (.aload_n 0, 1) := by decide +kernel
theorem dM_one_105 : decode bM_one 105 = .ok (.bipush 6, 2) := by decide +kernel
theorem dM_one_107 : decode bM_one 107 = .ok (.invokevirtual 78, 3) := by decide +kernel
theorem dM_one_110 : decode bM_one 110 = .ok (.bipush 8, 2) := by decide +kernel
theorem dM_one_112 : decode bM_one 112 = .ok (.ireturn, 1) := by decide +kernel
theorem dM_one_113 : decode bM_one 113 = .ok (.aload_n 0, 1) := by decide +kernel
theorem dM_one_114 : decode bM_one 114 = .ok (.iload_n 1, 1) := by decide +kernel
theorem dM_one_115 : decode bM_one 115 = .ok (.invokevirtual 104, 3) := by decide +kernel
theorem dM_one_118 : decode bM_one 118 = .ok (.ireturn, 1) := by decide +kernel
theorem dM_sum_0 : decode bM_sum 0 = .ok (.aload_n 0, 1) := by decide +kernel
theorem dM_sum_1 : decode bM_sum 1 = .ok (.iload_n 1, 1) := by decide +kernel
theorem dM_sum_2 : decode bM_sum 2 = .ok (.bipush 45, 2) := by decide +kernel
theorem dM_sum_4 : decode bM_sum 4 = .ok (.if_icmp .ne 7, 3) := by decide +kernel
theorem dM_sum_7 : decode bM_sum 7 = .ok (.iconst 1, 1) := by decide +kernel
theorem dM_sum_8 : decode bM_sum 8 = .ok (.goto 4, 3) := by decide +kernel
theorem dM_sum_11 : decode bM_sum 11 = .ok (.iconst 0, 1) := by decide +kernel
theorem dM_sum_12 : decode bM_sum 12 = .ok (.putfield 120, 3) := by decide +kernel
theorem dM_sum_15 : decode bM_sum 15 = .ok (.aload_n 0, 1) := by decide +kernel
theorem dM_sum_16 : decode bM_sum 16 = .ok (.iconst 1, 1) := by decide +kernel
theorem dM_sum_17 : decode bM_sum 17 = .ok (.putfield 123, 3) := by decide +kernel
theorem dM_sum_20 : decode bM_sum 20 = .ok (.aload_n 0, 1) := by decide +kernel
theorem dM_sum_21 : decode bM_sum 21 = .ok (.aload_n 0, 1) := by decide +kernel
theorem dM_sum_22 : decode bM_sum 22 = .ok (.getfield 101, 3) := by decide +kernel
theorem dM_sum_25 : decode bM_sum 25 = .ok (.ifCond .ne 14, 3) := by decide +kernel
theorem dM_sum_28 : decode bM_sum 28 = .ok (.aload_n 0, 1) := by decide +kernel
theorem dM_sum_29 : decode bM_sum 29 = .ok (.getfield 120, 3) := by decide +kernel
theorem dM_sum_32 : decode bM_sum 32 = .ok (.ifCond .ne 7, 3) := by decide +kernel
theorem dM_sum_35 : decode bM_sum 35 = .ok (.iconst 1, 1) := by decide +kernel
theorem dM_sum_36 : decode bM_sum 36 = .ok (.goto 4, 3) := by decide +kernel
theorem dM_sum_39 : decode bM_sum 39 = .ok (.iconst 0, 1) := by decide +kernel
theorem dM_sum_40 : decode bM_sum 40 = .ok (.putfield 126, 3) := by decide +kernel
theorem dM_sum_43 : decode bM_sum 43 = .ok (.aload_n 0, 1) := by decide +kernel
theorem dM_sum_44 : decode bM_sum 44 = .ok (.getfield 120, 3) := by decide +kernel
theorem dM_sum_47 : decode bM_sum 47 = .ok (.ifCond .eq 7, 3) := by decide +kernel
theorem dM_sum_50 : decode bM_sum 50 = .ok (.iconst 4, 1) := by decide +kernel
theorem dM_sum_51 : decode bM_sum 51 = .ok (.goto 8, 3) := by decide +kernel
theorem dM_sum_54 : decode bM_sum 54 = .ok (.aload_n 0, 1) := by decide +kernel
theorem dM_sum_55 : decode bM_sum 55 = .ok (.iload_n 1, 1) := by decide +kernel
theorem dM_sum_56 : decode bM_sum 56 = .ok (.invokevirtual 129, 3) := by decide +kernel
theorem dM_sum_59 : decode bM_sum 59 = .ok (.ireturn, 1) := by decide +kernel
theorem dM_part_0 : decode bM_part 0 = .ok (.aload_n 0, 1) := by decide +kernel
theorem dM_part_1 : decode bM_part 1 = .ok (.iconst 0, 1) := by decide +kernel
theorem dM_part_2 : decode bM_part 2 = .ok (.putfield 132, 3) := by decide +kernel
theorem dM_part_5 : decode bM_part 5 = .ok (.iload_n 1, 1) := by decide +kernel
theorem dM_part_6 : decode bM_part 6 = .ok (.invokestatic 135, 3) := by decide +kernel
theorem dM_part_9 : decode bM_part 9 = .ok (.ifCond .eq 18, 3) := by decide +kernel
theorem dM_part_12 : decode bM_part 12 = .ok (.aload_n 0, 1) := by decide +kernel
theorem dM_part_13 : decode bM_part 13 = .ok (.iload_n 1, 1) := by decide +kernel
theorem dM_part_14 : decode bM_part 14 = .ok (.bipush 48, 2) := by decide +kernel
theorem dM_part_16 : decode bM_part 16 = .ok (.isub, 1) := by decide +kernel
theorem dM_part_17 : decode bM_part 17 = .ok (.putfield 139, 3) := by decide +kernel
theorem dM_part_20 : decode bM_part 20 = .ok (.aload_n 0, 1) := by decide +kernel
theorem dM_part_21 : decode bM_part 21 = .ok (.iconst 1, 1) := by decide +kernel
theorem dM_part_22 : decode bM_part 22 = .ok (.putfield 142, 3) := by decide +kernel
theorem dM_part_25 : decode bM_part 25 = .ok (.iconst 5, 1) := by decide +kernel
theorem dM_part_26 : decode bM_part 26 = .ok (.ireturn, 1) := by decide +kernel
theorem dM_part_27 : decode bM_part 27 = .ok (.aload_n 0, 1) := by decide +kernel
theorem dM_part_28 : decode bM_part 28 = .ok (.iload_n 1, 1) := by decide +kernel
theorem dM_part_29 : decode bM_part 29 = .ok (.invokevirtual 145, 3) := by decide +kernel
theorem dM_part_32 : decode bM_part 32 = .ok (.ireturn, 1) := by decide +kernel
theorem dM_thing_0 : decode bM_thing 0 = .ok (.iload_n 1, 1) := by decide +kernel
theorem dM_thing_1 : decode bM_thing 1 = .ok (.invokestatic 108, 3) := by decide +kernel
theorem dM_thing_4 : decode bM_thing 4 = .ok (.istore_n 2, 1) := by decide +kernel
theorem dM_thing_5 : decode bM_thing 5 = .ok (.iload_n 1, 1) := by decide +kernel
theorem dM_thing_6 : decode bM_thing 6 = .ok (.bipush 110, 2) := by decide +kernel
theorem dM_thing_8 : decode bM_thing 8 = .ok (.if_icmp .ne 13, 3) := by decide +kernel
theorem dM_thing_11 : decode bM_thing 11 = .ok (.aload_n 0, 1) := by decide +kernel
theorem dM_thing_12 : decode bM_thing 12 = .ok (.bipush 15, 2) := by decide +kernel
theorem dM_thing_14 : decode bM_thing 14 = .ok (.iconst 0, 1) := by decide +kernel
theorem dM_thing_15 : decode bM_thing 15 = .ok (.invokevirtual 86, 3) := by decide +kernel
theorem dM_thing_18 : decode bM_thing 18 = .ok (.goto 62, 3) := by decide +kernel
theorem dM_thing_21 : decode bM_thing 21 = .ok (.iload_n 1, 1) := by decide +kernel
theorem dM_thing_22 : decode bM_thing 22 = .ok (.bipush 35, 2) := by decide +kernel
theorem dM_thing_24 : decode bM_thing 24 = .ok (.if_icmp .ne 20, 3) := by decide +kernel
theorem dM_thing_27 : decode bM_thing 27 = .ok (.aload_n 0, 1) := by decide +kernel
theorem dM_thing_28 : decode bM_thing 28 = .ok (.bipush 11, 2) := by decide +kernel
theorem dM_thing_30 : decode bM_thing 30 = .ok (.invokevirtual 90, 3) := by decide +kernel
theorem dM_thing_33 : decode bM_thing 33 = .ok (.ifCond .eq 8, 3) := by decide +kernel
theorem dM_thing_36 : decode bM_thing 36 = .ok (.bipush 8, 2) := by decide +kernel
theorem dM_thing_38 : decode bM_thing 38 = .ok (.goto 5, 3) := by decide +kernel
theorem dM_thing_41 : decode bM_thing 41 = .ok (.bipush 10, 2) := by decide +kernel
theorem dM_thing_43 : decode bM_thing 43 = .ok (.ireturn, 1) := by decide +kernel
theorem dM_thing_44 : decode bM_thing 44 = .ok (.iload_n 2, 1) := by decide +kernel
theorem dM_thing_45 : decode bM_thing 45 = .ok (.ifCond .lt 32, 3) := by decide +kernel
theorem dM_thing_48 : decode bM_thing 48 = .ok (.iload_n 2, 1) := by decide +kernel
theorem dM_thing_49 : decode bM_thing 49 = .ok (.iconst 3, 1) := by decide +kernel
theorem dM_thing_50 : decode bM_thing 50 = .ok (.if_icmp .ge 27, 3) := by decide +kernel
theorem dM_thing_53 : decode bM_thing 53 = .ok (.aload_n 0, 1) := by decide +kernel
theorem dM_thing_54 : decode bM_thing 54 = .ok (.getfield 48, 3) := by decide +kernel
theorem dM_thing_57 : decode bM_thing 57 = .ok (.iload_n 2, 1) := by decide +kernel
theorem dM_thing_58 : decode bM_thing 58 = .ok (.iaload, 1) := by decide +kernel
theorem dM_thing_59 : decode bM_thing 59 = .ok (.ifCond .lt 18, 3) := by decide +kernel
theorem dM_thing_62 : decode bM_thing 62 = .ok (.aload_n 0, 1) := by decide +kernel
theorem dM_thing_63 : decode bM_thing 63 = .ok (.bipush 14, 2) := by decide +kernel
theorem dM_thing_65 : decode bM_thing 65 = .ok (.aload_n 0, 1) := by decide +kernel
theorem dM_thing_66 : decode bM_thing 66 = .ok (.getfield 48, 3) := by decide +kernel
theorem dM_thing_69 : decode bM_thing 69 = .ok (.iload_n 2, 1) := by decide +kernel
theorem dM_thing_70 : decode bM_thing 70 = .ok (.iaload, 1) := by decide +kernel
theorem dM_thing_71 : decode bM_thing 71 = .ok (.invokevirtual 86, 3) := by decide +kernel
theorem dM_thing_74 : decode bM_thing 74 = .ok (.goto 6, 3) := by decide +kernel
theorem dM_thing_77 : decode bM_thing 77 = .ok (.bipush 10, 2) := by decide +kernel
theorem dM_thing_79 : decode bM_thing 79 = .ok (.ireturn, 1) := by decide +kernel
theorem dM_thing_80 : decode bM_thing 80 = .ok (.aload_n 0, 1) := by decide +kernel
theorem dM_thing_81 : decode bM_thing 81 = .ok (.invokevirtual 154, 3) := by decide +kernel
theorem dM_thing_84 : decode bM_thing 84 = .ok (.bipush 7, 2) := by decide +kernel
theorem dM_thing_86 : decode bM_thing 86 = .ok (.ireturn, 1) := by decide +kernel
theorem dM_wholePart_0 : decode bM_wholePart 0 = .ok (.aload_n 0, 1) := by decide +kernel
theorem dM_wholePart_1 : decode bM_wholePart 1 = .ok (.getfield 132, 3) := by decide +kernel
theorem dM_wholePart_4 : decode bM_wholePart 4 = .ok (.ifCond .eq 13, 3) := by decide +kernel
theorem dM_wholePart_7 : decode bM_wholePart 7 = .ok (.aload_n 0, 1) := by decide +kernel
theorem dM_wholePart_8 : decode bM_wholePart 8 = .ok (.bipush 16, 2) := by decide +kernel
theorem dM_wholePart_10 : decode bM_wholePart 10 = .ok (.aload_n 0, 1) := by decide +kernel
theorem dM_wholePart_11 : decode bM_wholePart 11 = .ok (.getfield 148, 3) := by decide +kernel
theorem dM_wholePart_14 : decode bM_wholePart 14 = .ok (.invokevirtual 86, 3) := by decide +kernel
theorem dM_wholePart_17 : decode bM_wholePart 17 = .ok (.aload_n 0, 1) := by decide +kernel
theorem dM_wholePart_18 : decode bM_wholePart 18 = .ok (.getfield 120, 3) := by decide +kernel
theorem dM_wholePart_21 : decode bM_wholePart 21 = .ok (.ifCond .eq 10, 3) := by decide +kernel
theorem dM_wholePart_24 : decode bM_wholePart 24 = .ok (.aload_n 0, 1) := by decide +kernel
theorem dM_wholePart_25 : decode bM_wholePart 25 = .ok (.bipush 17, 2) := by decide +kernel
theorem dM_wholePart_27 : decode bM_wholePart 27 = .ok (.iconst 0, 1) := by decide +kernel
theorem dM_wholePart_28 : decode bM_wholePart 28 = .ok (.invokevirtual 86, 3) := by decide +kernel
theorem dM_wholePart_31 : decode bM_wholePart 31 = .ok (.aload_n 0, 1) := by decide +kernel
theorem dM_wholePart_32 : decode bM_wholePart 32 = .ok (.getfield 123, 3) := by decide +kernel
theorem dM_wholePart_35 : decode bM_wholePart 35 = .ok (.ifCond .ne 10, 3) := by decide +kernel
theorem dM_wholePart_38 : decode bM_wholePart 38 = .ok (.aload_n 0, 1) := by decide +kernel
theorem dM_wholePart_39 : decode bM_wholePart 39 = .ok (.bipush 18, 2) := by decide +kernel
theorem dM_wholePart_41 : decode bM_wholePart 41 = .ok (.iconst 0, 1) := by decide +kernel
theorem dM_wholePart_42 : decode bM_wholePart 42 = .ok (.invokevirtual 86, 3) := by decide +kernel
theorem dM_wholePart_45 : decode bM_wholePart 45 = .ok (.aload_n 0, 1) := by decide +kernel
theorem dM_wholePart_46 : decode bM_wholePart 46 = .ok (.iconst 0, 1) := by decide +kernel
theorem dM_wholePart_47 : decode bM_wholePart 47 = .ok (.putfield 123, 3) := by decide +kernel
theorem dM_wholePart_50 : decode bM_wholePart 50 = .ok (.aload_n 0, 1) := by decide +kernel
theorem dM_wholePart_51 : decode bM_wholePart 51 = .ok (.iconst 0, 1) := by decide +kernel
theorem dM_wholePart_52 : decode bM_wholePart 52 = .ok (.putfield 126, 3) := by decide +kernel
theorem dM_wholePart_55 : decode bM_wholePart 55 = .ok (.aload_n 0, 1) := by decide +kernel
theorem dM_wholePart_56 : decode bM_wholePart 56 = .ok (.iconst 0, 1) := by decide +kernel
theorem dM_wholePart_57 : decode bM_wholePart 57 = .ok (.putfield 132, 3) := by decide +kernel
theorem dM_wholePart_60 : decode bM_wholePart 60 = .ok (.return_, 1) := by decide +kernel
theorem dM_afterOne_0 : decode bM_afterOne 0 = .ok (.iload_n 1, 1) := by decide +kernel
theorem dM_afterOne_1 : decode bM_afterOne 1 = .ok (.bipush 38, 2) := by decide +kernel
theorem dM_afterOne_3 : decode bM_afterOne 3 = .ok (.if_icmp .ne 16, 3) := by decide +kernel
theorem dM_afterOne_6 : decode bM_afterOne 6 = .ok (.aload_n 0, 1) := by decide +kernel
theorem dM_afterOne_7 : decode bM_afterOne 7 = .ok (.iconst 2, 1) := by decide +kernel
theorem dM_afterOne_8 : decode bM_afterOne 8 = .ok (.iconst 2, 1) := by decide +kernel
theorem dM_afterOne_9 : decode bM_afterOne 9 = .ok (.invokevirtual 114, 3) := by decide +kernel
theorem dM_afterOne_12 : decode bM_afterOne 12 = .ok (.aload_n 0, 1) := by decide +kernel
theorem dM_afterOne_13 : decode bM_afterOne 13 = .ok (.iconst 2, 1) := by decide +kernel
theorem dM_afterOne_14 : decode bM_afterOne 14 = .ok (.invokevirtual 78, 3) := by decide +kernel
theorem dM_afterOne_17 : decode bM_afterOne 17 = .ok (.iconst 0, 1) := by decide +kernel
theorem dM_afterOne_18 : decode bM_afterOne 18 = .ok (.ireturn, 1) := by decide +kernel
theorem dM_afterOne_19 : decode bM_afterOne 19 = .ok (.aload_n 0, 1) := by decide +kernel
theorem dM_afterOne_20 : decode bM_afterOne 20 = .ok (.iconst 2, 1) := by decide +kernel
theorem dM_afterOne_21 : decode bM_afterOne 21 = .ok (.iconst 1, 1) := by decide +kernel
theorem dM_afterOne_22 : decode bM_afterOne 22 = .ok (.invokevirtual 114, 3) := by decide +kernel
theorem dM_afterOne_25 : decode bM_afterOne 25 = .ok (.iload_n 1, 1) := by decide +kernel
theorem dM_afterOne_26 : decode bM_afterOne 26 = .ok (.bipush 124, 2) := by decide +kernel
theorem dM_afterOne_28 : decode bM_afterOne 28 = .ok (.if_icmp .ne 10, 3) := by decide +kernel
theorem dM_afterOne_31 : decode bM_afterOne 31 = .ok (.aload_n 0, 1) := by decide +kernel
theorem dM_afterOne_32 : decode bM_afterOne 32 = .ok (.iconst 1, 1) := by decide +kernel
theorem dM_afterOne_33 : decode bM_afterOne 33 = .ok (.invokevirtual 78, 3) := by decide +kernel
theorem dM_afterOne_36 : decode bM_afterOne 36 = .ok (.iconst 0, 1) := by decide +kernel
theorem dM_afterOne_37 : decode bM_afterOne 37 = .ok (.ireturn, 1) := by decide +kernel
theorem dM_afterOne_38 : decode bM_afterOne 38 = .ok (.iload_n 1, 1) := by decide +kernel
theorem dM_afterOne_39 : decode bM_afterOne 39 = .ok (.bipush 41, 2) := by decide +kernel
theorem dM_afterOne_41 : decode bM_afterOne 41 = .ok (.if_icmp .ne 11, 3) := by decide +kernel
theorem dM_afterOne_44 : decode bM_afterOne 44 = .ok (.aload_n 0, 1) := by decide +kernel
theorem dM_afterOne_45 : decode bM_afterOne 45 = .ok (.invokevirtual 82, 3) := by decide +kernel
theorem dM_afterOne_48 : decode bM_afterOne 48 = .ok (.iconst 4, 1) := by decide +kernel
theorem dM_afterOne_49 : decode bM_afterOne 49 = .ok (.if_icmp .eq 6, 3) := by decide +kernel
theorem dM_afterOne_52 : decode bM_afterOne 52 = .ok (.bipush 10, 2) := by decide +kernel
theorem dM_afterOne_54 : decode bM_afterOne 54 = .ok (.ireturn, 1) := by decide +kernel
theorem dM_afterOne_55 : decode bM_afterOne 55 = .ok (.aload_n 0, 1) := by decide +kernel
theorem dM_afterOne_56 : decode bM_afterOne 56 = .ok (.invokevirtual 111, 3) := by decide +kernel
theorem dM_afterOne_59 : decode bM_afterOne 59 = .ok (.aload_n 0, 1) := by decide +kernel
theorem dM_afterOne_60 : decode bM_afterOne 60 = .ok (.invokevirtual 117, 3) := by decide +kernel
theorem dM_afterOne_63 : decode bM_afterOne 63 = .ok (.ireturn, 1) := by decide +kernel
theorem dM_wholeOne_0 : decode bM_wholeOne 0 = .ok (.aload_n 0, 1) := by decide +kernel
theorem dM_wholeOne_1 : decode bM_wholeOne 1 = .ok (.invokevirtual 82, 3) := by decide +kernel
theorem dM_wholeOne_4 : decode bM_wholeOne 4 = .ok (.iconst 3, 1) := by decide +kernel
theorem dM_wholeOne_5 : decode bM_wholeOne 5 = .ok (.if_icmp .eq 11, 3) := by decide +kernel
theorem dM_wholeOne_8 : decode bM_wholeOne 8 = .ok (.aload_n 0, 1) := by decide +kernel
theorem dM_wholeOne_9 : decode bM_wholeOne 9 = .ok (.invokevirtual 82, 3) := by decide +kernel
theorem dM_wholeOne_12 : decode bM_wholeOne 12 = .ok (.iconst 5, 1) := by decide +kernel
theorem dM_wholeOne_13 : decode bM_wholeOne 13 = .ok (.if_icmp .ne 67, 3) := by decide +kernel
theorem dM_wholeOne_16 : decode bM_wholeOne 16 = .ok (.aload_n 0, 1) := by decide +kernel
theorem dM_wholeOne_17 : decode bM_wholeOne 17 = .ok (.getfield 42, 3) := by decide +kernel
theorem dM_wholeOne_20 : decode bM_wholeOne 20 = .ok (.aload_n 0, 1) := by decide +kernel
theorem dM_wholeOne_21 : decode bM_wholeOne 21 = .ok (.getfield 72, 3) := by decide +kernel
theorem dM_wholeOne_24 : decode bM_wholeOne 24 = .ok (.iconst 1, 1) := by decide +kernel
theorem dM_wholeOne_25 : decode bM_wholeOne 25 = .ok (.isub, 1) := by decide +kernel
theorem dM_wholeOne_26 : decode bM_wholeOne 26 = .ok (.iaload, 1) := by decide +kernel
theorem dM_wholeOne_27 : decode bM_wholeOne 27 = .ok (.istore_n 1, 1) := by decide +kernel
theorem dM_wholeOne_28 : decode bM_wholeOne 28 = .ok (.aload_n 0, 1) := by decide +kernel
theorem dM_wholeOne_29 : decode bM_wholeOne 29 = .ok (.invokevirtual 82, 3) := by decide +kernel
theorem dM_wholeOne_32 : decode bM_wholeOne 32 = .ok (.iconst 3, 1) := by decide +kernel
theorem dM_wholeOne_33 : decode bM_wholeOne 33 = .ok (.if_icmp .ne 12, 3) := by decide +kernel
theorem dM_wholeOne_36 : decode bM_wholeOne 36 = .ok (.aload_n 0, 1) := by decide +kernel
theorem dM_wholeOne_37 : decode bM_wholeOne 37 = .ok (.iconst 3, 1) := by decide +kernel
theorem dM_wholeOne_38 : decode bM_wholeOne 38 = .ok (.iconst 0, 1) := by decide +kernel
theorem dM_wholeOne_39 : decode bM_wholeOne 39 = .ok (.invokevirtual 86, 3) := by decide +kernel
theorem dM_wholeOne_42 : decode bM_wholeOne 42 = .ok (.goto 31, 3) := by decide +kernel
theorem dM_wholeOne_45 : decode bM_wholeOne 45 = .ok (.aload_n 0, 1) := by decide +kernel
theorem dM_wholeOne_46 : decode bM_wholeOne 46 = .ok (.iconst 5, 1) := by decide +kernel
theorem dM_wholeOne_47 : decode bM_wholeOne 47 = .ok (.aload_n 0, 1) := by decide +kernel
theorem dM_wholeOne_48 : decode bM_wholeOne 48 = .ok (.getfield 48, 3) := by decide +kernel
theorem dM_wholeOne_51 : decode bM_wholeOne 51 = .ok (.iload_n 1, 1) := by decide +kernel
theorem dM_wholeOne_52 : decode bM_wholeOne 52 = .ok (.iaload, 1) := by decide +kernel
theorem dM_wholeOne_53 : decode bM_wholeOne 53 = .ok (.invokevirtual 86, 3) := by decide +kernel
theorem dM_wholeOne_56 : decode bM_wholeOne 56 = .ok (.aload_n 0, 1) := by decide +kernel
theorem dM_wholeOne_57 : decode bM_wholeOne 57 = .ok (.getfield 48, 3) := by decide +kernel
theorem dM_wholeOne_60 : decode bM_wholeOne 60 = .ok (.iload_n 1, 1) := by decide +kernel
theorem dM_wholeOne_61 : decode bM_wholeOne 61 = .ok (.aload_n 0, 1) := by decide +kernel
theorem dM_wholeOne_62 : decode bM_wholeOne 62 = .ok (.getfield 45, 3) := by decide +kernel
theorem dM_wholeOne_65 : decode bM_wholeOne 65 = .ok (.aload_n 0, 1) := by decide +kernel
theorem dM_wholeOne_66 : decode bM_wholeOne 66 = .ok (.getfield 72, 3) := by decide +kernel
theorem dM_wholeOne_69 : decode bM_wholeOne 69 = .ok (.iconst 1, 1) := by decide +kernel
theorem dM_wholeOne_70 : decode bM_wholeOne 70 = .ok (.isub, 1) := by decide +kernel
theorem dM_wholeOne_71 : decode bM_wholeOne 71 = .ok (.iaload, 1) := by decide +kernel
theorem dM_wholeOne_72 : decode bM_wholeOne 72 = .ok (.iastore, 1) := by decide +kernel
theorem dM_wholeOne_73 : decode bM_wholeOne 73 = .ok (.aload_n 0, 1) := by decide +kernel
theorem dM_wholeOne_74 : decode bM_wholeOne 74 = .ok (.invokevirtual 111, 3) := by decide +kernel
theorem dM_wholeOne_77 : decode bM_wholeOne 77 = .ok (.goto (-77), 3) := by decide +kernel
theorem dM_wholeOne_80 : decode bM_wholeOne 80 = .ok (.iconst 1, 1) := by decide +kernel
theorem dM_wholeOne_81 : decode bM_wholeOne 81 = .ok (.ireturn, 1) := by decide +kernel
theorem dM_bound_0 : decode bM_bound 0 = .ok (.iload_n 1, 1) := by decide +kernel
theorem dM_bound_1 : decode bM_bound 1 = .ok (.invokestatic 108, 3) := by decide +kernel
theorem dM_bound_4 : decode bM_bound 4 = .ok (.istore_n 2, 1) := by decide +kernel
theorem dM_bound_5 : decode bM_bound 5 = .ok (.iload_n 2, 1) := by decide +kernel
theorem dM_bound_6 : decode bM_bound 6 = .ok (.ifCond .ge 6, 3) := by decide +kernel
theorem dM_bound_9 : decode bM_bound 9 = .ok (.bipush 10, 2) := by decide +kernel
theorem dM_bound_11 : decode bM_bound 11 = .ok (.ireturn, 1) := by decide +kernel
theorem dM_bound_12 : decode bM_bound 12 = .ok (.aload_n 0, 1) := by decide +kernel
theorem dM_bound_13 : decode bM_bound 13 = .ok (.getfield 33, 3) := by decide +kernel
theorem dM_bound_16 : decode bM_bound 16 = .ok (.aload_n 0, 1) := by decide +kernel
theorem dM_bound_17 : decode bM_bound 17 = .ok (.getfield 98, 3) := by decide +kernel
theorem dM_bound_20 : decode bM_bound 20 = .ok (.aload_n 0, 1) := by decide +kernel
theorem dM_bound_21 : decode bM_bound 21 = .ok (.getfield 94, 3) := by decide +kernel
theorem dM_bound_24 : decode bM_bound 24 = .ok (.bastore, 1) := by decide +kernel
theorem dM_bound_25 : decode bM_bound 25 = .ok (.aload_n 0, 1) := by decide +kernel
theorem dM_bound_26 : decode bM_bound 26 = .ok (.getfield 36, 3) := by decide +kernel
theorem dM_bound_29 : decode bM_bound 29 = .ok (.aload_n 0, 1) := by decide +kernel
theorem dM_bound_30 : decode bM_bound 30 = .ok (.getfield 98, 3) := by decide +kernel
theorem dM_bound_33 : decode bM_bound 33 = .ok (.iload_n 2, 1) := by decide +kernel
theorem dM_bound_34 : decode bM_bound 34 = .ok (.iconst 2, 1) := by decide +kernel
theorem dM_bound_35 : decode bM_bound 35 = .ok (.if_icmp .le 7, 3) := by decide +kernel
theorem dM_bound_38 : decode bM_bound 38 = .ok (.iconst 1, 1) := by decide +kernel
theorem dM_bound_39 : decode bM_bound 39 = .ok (.goto 4, 3) := by decide +kernel
theorem dM_bound_42 : decode bM_bound 42 = .ok (.iconst 0, 1) := by decide +kernel
theorem dM_bound_43 : decode bM_bound 43 = .ok (.bastore, 1) := by decide +kernel
theorem dM_bound_44 : decode bM_bound 44 = .ok (.aload_n 0, 1) := by decide +kernel
theorem dM_bound_45 : decode bM_bound 45 = .ok (.bipush 12, 2) := by decide +kernel
theorem dM_bound_47 : decode bM_bound 47 = .ok (.aload_n 0, 1) := by decide +kernel
theorem dM_bound_48 : decode bM_bound 48 = .ok (.getfield 98, 3) := by decide +kernel
theorem dM_bound_51 : decode bM_bound 51 = .ok (.invokevirtual 86, 3) := by decide +kernel
theorem dM_bound_54 : decode bM_bound 54 = .ok (.aload_n 0, 1) := by decide +kernel
theorem dM_bound_55 : decode bM_bound 55 = .ok (.iconst 5, 1) := by decide +kernel
theorem dM_bound_56 : decode bM_bound 56 = .ok (.invokevirtual 90, 3) := by decide +kernel
theorem dM_bound_59 : decode bM_bound 59 = .ok (.pop, 1) := by decide +kernel
theorem dM_bound_60 : decode bM_bound 60 = .ok (.aload_n 0, 1) := by decide +kernel
theorem dM_bound_61 : decode bM_bound 61 = .ok (.getfield 42, 3) := by decide +kernel
theorem dM_bound_64 : decode bM_bound 64 = .ok (.aload_n 0, 1) := by decide +kernel
theorem dM_bound_65 : decode bM_bound 65 = .ok (.getfield 72, 3) := by decide +kernel
theorem dM_bound_68 : decode bM_bound 68 = .ok (.iconst 1, 1) := by decide +kernel
theorem dM_bound_69 : decode bM_bound 69 = .ok (.isub, 1) := by decide +kernel
theorem dM_bound_70 : decode bM_bound 70 = .ok (.iload_n 2, 1) := by decide +kernel
theorem dM_bound_71 : decode bM_bound 71 = .ok (.iastore, 1) := by decide +kernel
theorem dM_bound_72 : decode bM_bound 72 = .ok (.aload_n 0, 1) := by decide +kernel
theorem dM_bound_73 : decode bM_bound 73 = .ok (.getfield 45, 3) := by decide +kernel
theorem dM_bound_76 : decode bM_bound 76 = .ok (.aload_n 0, 1) := by decide +kernel
theorem dM_bound_77 : decode bM_bound 77 = .ok (.getfield 72, 3) := by decide +kernel
theorem dM_bound_80 : decode bM_bound 80 = .ok (.iconst 1, 1) := by decide +kernel
theorem dM_bound_81 : decode bM_bound 81 = .ok (.isub, 1) := by decide +kernel
theorem dM_bound_82 : decode bM_bound 82 = .ok (.aload_n 0, 1) := by decide +kernel
theorem dM_bound_83 : decode bM_bound 83 = .ok (.getfield 48, 3) := by decide +kernel
theorem dM_bound_86 : decode bM_bound 86 = .ok (.iload_n 2, 1) := by decide +kernel
theorem dM_bound_87 : decode bM_bound 87 = .ok (.iaload, 1) := by decide +kernel
theorem dM_bound_88 : decode bM_bound 88 = .ok (.iastore, 1) := by decide +kernel
theorem dM_bound_89 : decode bM_bound 89 = .ok (.aload_n 0, 1) := by decide +kernel
theorem dM_bound_90 : decode bM_bound 90 = .ok (.getfield 48, 3) := by decide +kernel
theorem dM_bound_93 : decode bM_bound 93 = .ok (.iload_n 2, 1) := by decide +kernel
theorem dM_bound_94 : decode bM_bound 94 = .ok (.aload_n 0, 1) := by decide +kernel
theorem dM_bound_95 : decode bM_bound 95 = .ok (.getfield 98, 3) := by decide +kernel
theorem dM_bound_98 : decode bM_bound 98 = .ok (.iastore, 1) := by decide +kernel
theorem dM_bound_99 : decode bM_bound 99 = .ok (.aload_n 0, 1) := by decide +kernel
theorem dM_bound_100 : decode bM_bound 100 = .ok (.dup, 1) := by decide +kernel
theorem dM_bound_101 : decode bM_bound 101 = .ok (.getfield 98, 3) := by decide +kernel
theorem dM_bound_104 : decode bM_bound 104 = .ok (.iconst 1, 1) := by decide +kernel
theorem dM_bound_105 : decode bM_bound 105 = .ok (.iadd, 1) := by decide +kernel
theorem dM_bound_106 : decode bM_bound 106 = .ok (.putfield 98, 3) := by decide +kernel
theorem dM_bound_109 : decode bM_bound 109 = .ok (.iconst 0, 1) := by decide +kernel
theorem dM_bound_110 : decode bM_bound 110 = .ok (.ireturn, 1) := by decide +kernel
theorem dM_afterNumber_0 : decode bM_afterNumber 0 = .ok (.iload_n 1, 1) := by decide +kernel
theorem dM_afterNumber_1 : decode bM_afterNumber 1 = .ok (.invokestatic 135, 3) := by decide +kernel
theorem dM_afterNumber_4 : decode bM_afterNumber 4 = .ok (.ifCond .eq 44, 3) := by decide +kernel
theorem dM_afterNumber_7 : decode bM_afterNumber 7 = .ok (.aload_n 0, 1) := by decide +kernel
theorem dM_afterNumber_8 : decode bM_afterNumber 8 = .ok (.bipush 10, 2) := by decide +kernel
theorem dM_afterNumber_10 : decode bM_afterNumber 10 = .ok (.aload_n 0, 1) := by decide +kernel
theorem dM_afterNumber_11 : decode bM_afterNumber 11 = .ok (.getfield 139, 3) := by decide +kernel
theorem dM_afterNumber_14 : decode bM_afterNumber 14 = .ok (.imul, 1) := by decide +kernel
theorem dM_afterNumber_15 : decode bM_afterNumber 15 = .ok (.iload_n 1, 1) := by decide +kernel
theorem dM_afterNumber_16 : decode bM_afterNumber 16 = .ok (.iadd, 1) := by decide +kernel
theorem dM_afterNumber_17 : decode bM_afterNumber 17 = .ok (.bipush 48, 2) := by decide +kernel
theorem dM_afterNumber_19 : decode bM_afterNumber 19 = .ok (.isub, 1) := by decide +kernel
theorem dM_afterNumber_20 : decode bM_afterNumber 20 = .ok (.putfield 139, 3) := by decide +kernel
theorem dM_afterNumber_23 : decode bM_afterNumber 23 = .ok (.aload_n 0, 1) := by decide +kernel
theorem dM_afterNumber_24 : decode bM_afterNumber 24 = .ok (.dup, 1) := by decide +kernel
theorem dM_afterNumber_25 : decode bM_afterNumber 25 = .ok (.getfield 142, 3) := by decide +kernel
theorem dM_afterNumber_28 : decode bM_afterNumber 28 = .ok (.iconst 1, 1) := by decide +kernel
theorem dM_afterNumber_29 : decode bM_afterNumber 29 = .ok (.iadd, 1) := by decide +kernel
theorem dM_afterNumber_30 : decode bM_afterNumber 30 = .ok (.putfield 142, 3) := by decide +kernel
theorem dM_afterNumber_33 : decode bM_afterNumber 33 = .ok (.aload_n 0, 1) := by decide +kernel
theorem dM_afterNumber_34 : decode bM_afterNumber 34 = .ok (.getfield 142, 3) := by decide +kernel
theorem dM_afterNumber_37 : decode bM_afterNumber 37 = .ok (.iconst 4, 1) := by decide +kernel
theorem dM_afterNumber_38 : decode bM_afterNumber 38 = .ok (.if_icmp .ge 7, 3) := by decide +kernel
theorem dM_afterNumber_41 : decode bM_afterNumber 41 = .ok (.iconst 5, 1) := by decide +kernel
theorem dM_afterNumber_42 : decode bM_afterNumber 42 = .ok (.goto 5, 3) := by decide +kernel
theorem dM_afterNumber_45 : decode bM_afterNumber 45 = .ok (.bipush 10, 2) := by decide +kernel
theorem dM_afterNumber_47 : decode bM_afterNumber 47 = .ok (.ireturn, 1) := by decide +kernel
theorem dM_afterNumber_48 : decode bM_afterNumber 48 = .ok (.iload_n 1, 1) := by decide +kernel
theorem dM_afterNumber_49 : decode bM_afterNumber 49 = .ok (.bipush 42, 2) := by decide +kernel
theorem dM_afterNumber_51 : decode bM_afterNumber 51 = .ok (.if_icmp .ne 19, 3) := by decide +kernel
theorem dM_afterNumber_54 : decode bM_afterNumber 54 = .ok (.aload_n 0, 1) := by decide +kernel
theorem dM_afterNumber_55 : decode bM_afterNumber 55 = .ok (.iconst 1, 1) := by decide +kernel
theorem dM_afterNumber_56 : decode bM_afterNumber 56 = .ok (.putfield 132, 3) := by decide +kernel
theorem dM_afterNumber_59 : decode bM_afterNumber 59 = .ok (.aload_n 0, 1) := by decide +kernel
theorem dM_afterNumber_60 : decode bM_afterNumber 60 = .ok (.aload_n 0, 1) := by decide +kernel
theorem dM_afterNumber_61 : decode bM_afterNumber 61 = .ok (.getfield 139, 3) := by decide +kernel
theorem dM_afterNumber_64 : decode bM_afterNumber 64 = .ok (.putfield 148, 3) := by decide +kernel
theorem dM_afterNumber_67 : decode bM_afterNumber 67 = .ok (.bipush 6, 2) := by decide +kernel
theorem dM_afterNumber_69 : decode bM_afterNumber 69 = .ok (.ireturn, 1) := by decide +kernel
theorem dM_afterNumber_70 : decode bM_afterNumber 70 = .ok (.iload_n 1, 1) := by decide +kernel
theorem dM_afterNumber_71 : decode bM_afterNumber 71 = .ok (.bipush 58, 2) := by decide +kernel
theorem dM_afterNumber_73 : decode bM_afterNumber 73 = .ok (.if_icmp .ne 37, 3) := by decide +kernel
theorem dM_afterNumber_76 : decode bM_afterNumber 76 = .ok (.aload_n 0, 1) := by decide +kernel
theorem dM_afterNumber_77 : decode bM_afterNumber 77 = .ok (.getfield 126, 3) := by decide +kernel
theorem dM_afterNumber_80 : decode bM_afterNumber 80 = .ok (.ifCond .eq 30, 3) := by decide +kernel
theorem dM_afterNumber_83 : decode bM_afterNumber 83 = .ok (.aload_n 0, 1) := by decide +kernel
theorem dM_afterNumber_84 : decode bM_afterNumber 84 = .ok (.iconst 3, 1) := by decide +kernel
theorem dM_afterNumber_85 : decode bM_afterNumber 85 = .ok (.putfield 101, 3) := by decide +kernel
theorem dM_afterNumber_88 : decode bM_afterNumber 88 = .ok (.aload_n 0, 1) := by decide +kernel
theorem dM_afterNumber_89 : decode bM_afterNumber 89 = .ok (.aload_n 0, 1) := by decide +kernel
theorem dM_afterNumber_90 : decode bM_afterNumber 90 = .ok (.getfield 139, 3) := by decide +kernel
theorem dM_afterNumber_93 : decode bM_afterNumber 93 = .ok (.putfield 151, 3) := by decide +kernel
theorem dM_afterNumber_96 : decode bM_afterNumber 96 = .ok (.aload_n 0, 1) := by decide +kernel
theorem dM_afterNumber_97 : decode bM_afterNumber 97 = .ok (.getfield 139, 3) := by decide +kernel
theorem dM_afterNumber_100 : decode bM_afterNumber 100 = .ok (.ifCond .le 7, 3) := by decide +kernel
theorem dM_afterNumber_103 : decode bM_afterNumber 103 = .ok (.iconst 3, 1) := by decide +kernel
theorem dM_afterNumber_104 : decode bM_afterNumber 104 = .ok (.goto 5, 3) := by decide +kernel
theorem dM_afterNumber_107 : decode bM_afterNumber 107 = .ok (.bipush 10, 2) := by decide +kernel
theorem dM_afterNumber_109 : decode bM_afterNumber 109 = .ok (.ireturn, 1) := by decide +kernel
theorem dM_afterNumber_110 : decode bM_afterNumber 110 = .ok (.aload_n 0, 1) := by decide +kernel
theorem dM_afterNumber_111 : decode bM_afterNumber 111 = .ok (.bipush 13, 2) := by decide +kernel
theorem dM_afterNumber_113 : decode bM_afterNumber 113 = .ok (.aload_n 0, 1) := by decide +kernel
theorem dM_afterNumber_114 : decode bM_afterNumber 114 = .ok (.getfield 139, 3) := by decide +kernel
theorem dM_afterNumber_117 : decode bM_afterNumber 117 = .ok (.invokevirtual 86, 3) := by decide +kernel
theorem dM_afterNumber_120 : decode bM_afterNumber 120 = .ok (.aload_n 0, 1) := by decide +kernel
theorem dM_afterNumber_121 : decode bM_afterNumber 121 = .ok (.invokevirtual 154, 3) := by decide +kernel
theorem dM_afterNumber_124 : decode bM_afterNumber 124 = .ok (.aload_n 0, 1) := by decide +kernel
theorem dM_afterNumber_125 : decode bM_afterNumber 125 = .ok (.iload_n 1, 1) := by decide +kernel
theorem dM_afterNumber_126 : decode bM_afterNumber 126 = .ok (.invokevirtual 157, 3) := by decide +kernel
theorem dM_afterNumber_129 : decode bM_afterNumber 129 = .ok (.ireturn, 1) := by decide +kernel
theorem dM_afterPart_0 : decode bM_afterPart 0 = .ok (.iload_n 1, 1) := by decide +kernel
theorem dM_afterPart_1 : decode bM_afterPart 1 = .ok (.bipush 43, 2) := by decide +kernel
theorem dM_afterPart_3 : decode bM_afterPart 3 = .ok (.if_icmp .eq 9, 3) := by decide +kernel
theorem dM_afterPart_6 : decode bM_afterPart 6 = .ok (.iload_n 1, 1) := by decide +kernel
theorem dM_afterPart_7 : decode bM_afterPart 7 = .ok (.bipush 45, 2) := by decide +kernel
theorem dM_afterPart_9 : decode bM_afterPart 9 = .ok (.if_icmp .ne 20, 3) := by decide +kernel
theorem dM_afterPart_12 : decode bM_afterPart 12 = .ok (.aload_n 0, 1) := by decide +kernel
theorem dM_afterPart_13 : decode bM_afterPart 13 = .ok (.iload_n 1, 1) := by decide +kernel
theorem dM_afterPart_14 : decode bM_afterPart 14 = .ok (.bipush 45, 2) := by decide +kernel
theorem dM_afterPart_16 : decode bM_afterPart 16 = .ok (.if_icmp .ne 7, 3) := by decide +kernel
theorem dM_afterPart_19 : decode bM_afterPart 19 = .ok (.iconst 1, 1) := by decide +kernel
theorem dM_afterPart_20 : decode bM_afterPart 20 = .ok (.goto 4, 3) := by decide +kernel
theorem dM_afterPart_23 : decode bM_afterPart 23 = .ok (.iconst 0, 1) := by decide +kernel
theorem dM_afterPart_24 : decode bM_afterPart 24 = .ok (.putfield 120, 3) := by decide +kernel
theorem dM_afterPart_27 : decode bM_afterPart 27 = .ok (.iconst 4, 1) := by decide +kernel
theorem dM_afterPart_28 : decode bM_afterPart 28 = .ok (.ireturn, 1) := by decide +kernel
theorem dM_afterPart_29 : decode bM_afterPart 29 = .ok (.aload_n 0, 1) := by decide +kernel
theorem dM_afterPart_30 : decode bM_afterPart 30 = .ok (.getfield 101, 3) := by decide +kernel
theorem dM_afterPart_33 : decode bM_afterPart 33 = .ok (.ifCond .ne 42, 3) := by decide +kernel
theorem dM_afterPart_36 : decode bM_afterPart 36 = .ok (.aload_n 0, 1) := by decide +kernel
theorem dM_afterPart_37 : decode bM_afterPart 37 = .ok (.iload_n 1, 1) := by decide +kernel
theorem dM_afterPart_38 : decode bM_afterPart 38 = .ok (.bipush 60, 2) := by decide +kernel
theorem dM_afterPart_40 : decode bM_afterPart 40 = .ok (.if_icmp .ne 7, 3) := by decide +kernel
theorem dM_afterPart_43 : decode bM_afterPart 43 = .ok (.iconst 1, 1) := by decide +kernel
theorem dM_afterPart_44 : decode bM_afterPart 44 = .ok (.goto 14, 3) := by decide +kernel
theorem dM_afterPart_47 : decode bM_afterPart 47 = .ok (.iload_n 1, 1) := by decide +kernel
theorem dM_afterPart_48 : decode bM_afterPart 48 = .ok (.bipush 61, 2) := by decide +kernel
theorem dM_afterPart_50 : decode bM_afterPart 50 = .ok (.if_icmp .ne 7, 3) := by decide +kernel
theorem dM_afterPart_53 : decode bM_afterPart 53 = .ok (.iconst 2, 1) := by decide +kernel
theorem dM_afterPart_54 : decode bM_afterPart 54 = .ok (.goto 4, 3) := by decide +kernel
theorem dM_afterPart_57 : decode bM_afterPart 57 = .ok (.iconst 0, 1) := by decide +kernel
theorem dM_afterPart_58 : decode bM_afterPart 58 = .ok (.putfield 101, 3) := by decide +kernel
theorem dM_afterPart_61 : decode bM_afterPart 61 = .ok (.aload_n 0, 1) := by decide +kernel
theorem dM_afterPart_62 : decode bM_afterPart 62 = .ok (.getfield 101, 3) := by decide +kernel
theorem dM_afterPart_65 : decode bM_afterPart 65 = .ok (.ifCond .le 7, 3) := by decide +kernel
theorem dM_afterPart_68 : decode bM_afterPart 68 = .ok (.iconst 3, 1) := by decide +kernel
theorem dM_afterPart_69 : decode bM_afterPart 69 = .ok (.goto 5, 3) := by decide +kernel
theorem dM_afterPart_72 : decode bM_afterPart 72 = .ok (.bipush 10, 2) := by decide +kernel
theorem dM_afterPart_74 : decode bM_afterPart 74 = .ok (.ireturn, 1) := by decide +kernel
theorem dM_afterPart_75 : decode bM_afterPart 75 = .ok (.aload_n 0, 1) := by decide +kernel
theorem dM_afterPart_76 : decode bM_afterPart 76 = .ok (.aload_n 0, 1) := by decide +kernel
theorem dM_afterPart_77 : decode bM_afterPart 77 = .ok (.getfield 101, 3) := by decide +kernel
theorem dM_afterPart_80 : decode bM_afterPart 80 = .ok (.iconst 1, 1) := by decide +kernel
theorem dM_afterPart_81 : decode bM_afterPart 81 = .ok (.if_icmp .ne 8, 3) := by decide +kernel
theorem dM_afterPart_84 : decode bM_afterPart 84 = .ok (.bipush 19, 2) := by decide +kernel
theorem dM_afterPart_86 : decode bM_afterPart 86 = .ok (.goto 18, 3) := by decide +kernel
theorem dM_afterPart_89 : decode bM_afterPart 89 = .ok (.aload_n 0, 1) := by decide +kernel
theorem dM_afterPart_90 : decode bM_afterPart 90 = .ok (.getfield 101, 3) := by decide +kernel
theorem dM_afterPart_93 : decode bM_afterPart 93 = .ok (.iconst 2, 1) := by decide +kernel
theorem dM_afterPart_94 : decode bM_afterPart 94 = .ok (.if_icmp .ne 8, 3) := by decide +kernel
theorem dM_afterPart_97 : decode bM_afterPart 97 = .ok (.bipush 20, 2) := by decide +kernel
theorem dM_afterPart_99 : decode bM_afterPart 99 = .ok (.goto 5, 3) := by decide +kernel
theorem dM_afterPart_102 : decode bM_afterPart 102 = .ok (.bipush 21, 2) := by decide +kernel
theorem dM_afterPart_104 : decode bM_afterPart 104 = .ok (.aload_n 0, 1) := by decide +kernel
theorem dM_afterPart_105 : decode bM_afterPart 105 = .ok (.getfield 151, 3) := by decide +kernel
theorem dM_afterPart_108 : decode bM_afterPart 108 = .ok (.invokevirtual 86, 3) := by decide +kernel
theorem dM_afterPart_111 : decode bM_afterPart 111 = .ok (.aload_n 0, 1) := by decide +kernel
theorem dM_afterPart_112 : decode bM_afterPart 112 = .ok (.invokevirtual 117, 3) := by decide +kernel
theorem dM_afterPart_115 : decode bM_afterPart 115 = .ok (.pop, 1) := by decide +kernel
theorem dM_afterPart_116 : decode bM_afterPart 116 = .ok (.aload_n 0, 1) := by decide +kernel
theorem dM_afterPart_117 : decode bM_afterPart 117 = .ok (.iload_n 1, 1) := by decide +kernel
theorem dM_afterPart_118 : decode bM_afterPart 118 = .ok (.invokevirtual 160, 3) := by decide +kernel
theorem dM_afterPart_121 : decode bM_afterPart 121 = .ok (.ireturn, 1) := by decide +kernel
section
variable {p : Program} {l : Launch} {e : Env} {R : Room} {s : State} {m : MethodId} {args : Array Value} {below : List Frame} {meth : Method} {c : Code} {G : Gx} {M0 M' : Mem} {r : Option Value ⊕ Nat} {d : Nat} {C : Cx}

def fM_one_20 (n d : Nat) (C : Cx) (xs0 : Int32) (M : Mem) : Rz := some (.inl (some (.int xs0)), M)
set_option maxRecDepth 100000 in
set_option maxHeartbeats 4000000 in
theorem tM_one_20 {n : Nat} (F : FX p s m meth c G R M0 d "HeadCountModel" bM_one 2 (some .int)) (hC : CBs l G d C) : ∀ (xs0 : Int32) (M : Mem) (H : Heap) (locs : List Loc) (cells slots : Nat) (ls : Array Slot), fM_one_20 n d C xs0 M = some (r, M') → RL G M0 M H locs cells slots → lv_has ls 2 [] → W p l e R s m args below meth c H locs cells slots (CQ G below s M0 r M') (F0 m 20 ls [.int xs0]) := by
  obtain ⟨hx, hb, hml, hown, hrt, hlk, hex, hK, hRm⟩ := id F
  intro xs0 M H locs cells slots ls h hR hl
  unfold fM_one_20 at h
  cases h
  exact rt_i hx hb hlk hrt (Or.inl rfl) rfl hR dM_one_20
def fM_one_41 (n d : Nat) (C : Cx) (xs0 : Int32) (M : Mem) : Rz := some (.inl (some (.int xs0)), M)
set_option maxRecDepth 100000 in
set_option maxHeartbeats 4000000 in
theorem tM_one_41 {n : Nat} (F : FX p s m meth c G R M0 d "HeadCountModel" bM_one 2 (some .int)) (hC : CBs l G d C) : ∀ (xs0 : Int32) (M : Mem) (H : Heap) (locs : List Loc) (cells slots : Nat) (ls : Array Slot), fM_one_41 n d C xs0 M = some (r, M') → RL G M0 M H locs cells slots → lv_has ls 2 [] → W p l e R s m args below meth c H locs cells slots (CQ G below s M0 r M') (F0 m 41 ls [.int xs0]) := by
  obtain ⟨hx, hb, hml, hown, hrt, hlk, hex, hK, hRm⟩ := id F
  intro xs0 M H locs cells slots ls h hR hl
  unfold fM_one_41 at h
  cases h
  exact rt_i hx hb hlk hrt (Or.inl rfl) rfl hR dM_one_41
def fM_one_92 (n d : Nat) (C : Cx) (xs0 : Int32) (M : Mem) : Rz := some (.inl (some (.int xs0)), M)
set_option maxRecDepth 100000 in
set_option maxHeartbeats 4000000 in
theorem tM_one_92 {n : Nat} (F : FX p s m meth c G R M0 d "HeadCountModel" bM_one 2 (some .int)) (hC : CBs l G d C) : ∀ (xs0 : Int32) (M : Mem) (H : Heap) (locs : List Loc) (cells slots : Nat) (ls : Array Slot), fM_one_92 n d C xs0 M = some (r, M') → RL G M0 M H locs cells slots → lv_has ls 2 [] → W p l e R s m args below meth c H locs cells slots (CQ G below s M0 r M') (F0 m 92 ls [.int xs0]) := by
  obtain ⟨hx, hb, hml, hown, hrt, hlk, hex, hK, hRm⟩ := id F
  intro xs0 M H locs cells slots ls h hR hl
  unfold fM_one_92 at h
  cases h
  exact rt_i hx hb hlk hrt (Or.inl rfl) rfl hR dM_one_92
def fM_one_90 (n d : Nat) (C : Cx) (M : Mem) : Rz := fM_one_92 n d C 10 M
set_option maxRecDepth 100000 in
set_option maxHeartbeats 4000000 in
theorem tM_one_90 {n : Nat} (F : FX p s m meth c G R M0 d "HeadCountModel" bM_one 2 (some .int)) (hC : CBs l G d C) : ∀ (M : Mem) (H : Heap) (locs : List Loc) (cells slots : Nat) (ls : Array Slot), fM_one_90 n d C M = some (r, M') → RL G M0 M H locs cells slots → lv_has ls 2 [] → W p l e R s m args below meth c H locs cells slots (CQ G below s M0 r M') (F0 m 90 ls []) := by
  obtain ⟨hx, hb, hml, hown, hrt, hlk, hex, hK, hRm⟩ := id F
  intro M H locs cells slots ls h hR hl
  unfold fM_one_90 at h
  refine lv_bipush (v := 10) hx hb dM_one_90 (by decide) ?_
  exact tM_one_92 F hC 10 _ _ _ _ _ _ h hR (lv_sub hl [] rfl)
def fM_one_66 (n d : Nat) (C : Cx) (a0 : Nat) (xs0 : Int32) (as1 : Nat) (M : Mem) : Rz := if mK M as1 = 5 then (if fits .boolean (.int xs0) = true then (rzM (setI M as1 25 xs0) fun M_3 => (if mK M_3 a0 = 5 then (if 4 ≤ (mI M_3 a0 13) then (fM_one_90 n d C M_3) else (if 12 ≤ (mI M_3 a0 24) then (fM_one_90 n d C M_3) else (fM_one_92 n d C 2 M_3))) else none)) else none) else none
set_option maxRecDepth 100000 in
set_option maxHeartbeats 4000000 in
theorem tM_one_66 {n : Nat} (F : FX p s m meth c G R M0 d "HeadCountModel" bM_one 2 (some .int)) (hC : CBs l G d C) : ∀ (a0 : Nat) (xs0 : Int32) (as1 : Nat) (M : Mem) (H : Heap) (locs : List Loc) (cells slots : Nat) (ls : Array Slot), fM_one_66 n d C a0 xs0 as1 M = some (r, M') → RL G M0 M H locs cells slots → lv_has ls 2 [(0, .ref a0)] → W p l e R s m args below meth c H locs cells slots (CQ G below s M0 r M') (F0 m 66 ls [.int xs0, .ref as1]) := by
  obtain ⟨hx, hb, hml, hown, hrt, hlk, hex, hK, hRm⟩ := id F
  intro a0 xs0 as1 M H locs cells slots ls h hR hl
  unfold fM_one_66 at h
  obtain ⟨c_1, h⟩ := rz_chk h
  obtain ⟨c_2, h⟩ := rz_chk h
  obtain ⟨M_3, q_4, h⟩ := rz_m h
  refine rg_putI hx hb hown hK hR hk_M 25 (by decide) kf_M_94 rfl rfl (ty := .boolean) (by decide +kernel) (Or.inr (Or.inr rfl)) c_2 c_1 dM_one_66 (fun H locs hR => ?_)
  rw [← q_4] at hR
  have c_5 : mK M_3 as1 = 5 := by rw [q_4]; exact c_1
  refine lv_aload_n hx hb dM_one_69 rfl (lv_at hl 0 rfl) ?_
  obtain ⟨c_6, h⟩ := rz_chk h
  refine rg_getI hx hb hown hK hR hk_M 13 (by decide) kf_M_98 rfl c_6 dM_one_70 ?_
  refine lv_iconst (v := 4) hx hb dM_one_73 (by decide) ?_
  refine lv_icmp_ge (tgt := 90) hx hb dM_one_74 (by decide) (fun c_7 => ?_) (fun c_7 => ?_)
  · replace h := rz_t c_7 h
    exact tM_one_90 F hC _ _ _ _ _ _ h hR (lv_sub hl [] rfl)
  · replace h := rz_f c_7 h
    refine lv_aload_n hx hb dM_one_77 rfl (lv_at hl 0 rfl) ?_
    refine rg_getI hx hb hown hK hR hk_M 24 (by decide) kf_M_75 rfl c_6 dM_one_78 ?_
    refine lv_bipush (v := 12) hx hb dM_one_81 (by decide) ?_
    refine lv_icmp_ge (tgt := 90) hx hb dM_one_83 (by decide) (fun c_8 => ?_) (fun c_8 => ?_)
    · replace h := rz_t c_8 h
      exact tM_one_90 F hC _ _ _ _ _ _ h hR (lv_sub hl [] rfl)
    · replace h := rz_f c_8 h
      refine lv_iconst (v := 2) hx hb dM_one_86 (by decide) ?_
      refine lv_goto (tgt := 92) hx hb dM_one_87 (by decide) ?_
      exact tM_one_92 F hC 2 _ _ _ _ _ _ h hR (lv_sub hl [] rfl)
def fM_one_54 (n d : Nat) (C : Cx) (a0 : Nat) (x1 : Int32) (M : Mem) : Rz := if x1 = 65 then (fM_one_66 n d C a0 1 a0 M) else (fM_one_66 n d C a0 0 a0 M)
set_option maxRecDepth 100000 in
set_option maxHeartbeats 4000000 in
theorem tM_one_54 {n : Nat} (F : FX p s m meth c G R M0 d "HeadCountModel" bM_one 2 (some .int)) (hC : CBs l G d C) : ∀ (a0 : Nat) (x1 : Int32) (M : Mem) (H : Heap) (locs : List Loc) (cells slots : Nat) (ls : Array Slot), fM_one_54 n d C a0 x1 M = some (r, M') → RL G M0 M H locs cells slots → lv_has ls 2 [(0, .ref a0), (1, .int x1)] → W p l e R s m args below meth c H locs cells slots (CQ G below s M0 r M') (F0 m 54 ls []) := by
  obtain ⟨hx, hb, hml, hown, hrt, hlk, hex, hK, hRm⟩ := id F
  intro a0 x1 M H locs cells slots ls h hR hl
  unfold fM_one_54 at h
  refine lv_aload_n hx hb dM_one_54 rfl (lv_at hl 0 rfl) ?_
  refine lv_iload_n hx hb dM_one_55 rfl (lv_at hl 1 rfl) ?_
  refine lv_bipush (v := 65) hx hb dM_one_56 (by decide) ?_
  refine lv_icmp_ne (tgt := 65) hx hb dM_one_58 (by decide) (fun c_1 => ?_) (fun c_1 => ?_)
  · replace h := rz_f c_1 h
    refine lv_iconst (v := 0) hx hb dM_one_65 (by decide) ?_
    exact tM_one_66 F hC a0 0 a0 _ _ _ _ _ _ h hR (lv_sub hl [0] rfl)
  · replace h := rz_t c_1 h
    refine lv_iconst (v := 1) hx hb dM_one_61 (by decide) ?_
    refine lv_goto (tgt := 66) hx hb dM_one_62 (by decide) ?_
    exact tM_one_66 F hC a0 1 a0 _ _ _ _ _ _ h hR (lv_sub hl [0] rfl)
def fM_one_0 (n d : Nat) (C : Cx) (a0 : Nat) (x1 : Int32) (M : Mem) : Rz := if x1 = 33 then (if mK M a0 = 5 then (rzC (C 74 [.ref a0, .int 3] M) fun v_27 M_28 => (rzI v_27 fun x_31 => (if x_31 = 0 then (fM_one_20 n d C 10 M_28) else (fM_one_20 n d C 0 M_28)))) else none) else (if x1 = 40 then (if mK M a0 = 5 then (rzC (C 74 [.ref a0, .int 4] M) fun v_20 M_21 => (rzI v_20 fun x_24 => (if x_24 = 0 then (fM_one_41 n d C 10 M_21) else (fM_one_41 n d C 0 M_21)))) else none) else (if x1 = 65 then (fM_one_54 n d C a0 x1 M) else (if x1 = 69 then (fM_one_54 n d C a0 x1 M) else (if mK M a0 = 5 then (rzM (setI M a0 33 0) fun M_6 => (if x1 = 91 then (rzC (C 75 [.ref a0, .int 6] M_6) fun v_15 M_16 => (rzV v_15 (some (.inl (some (.int 8)), M_16)))) else (rzC (C 76 [.ref a0, .int x1] M_6) fun v_10 M_11 => (rzI v_10 fun x_14 => (some (.inl (some (.int x_14)), M_11)))))) else none))))
set_option maxRecDepth 100000 in
set_option maxHeartbeats 4000000 in
theorem tM_one_0 {n : Nat} (F : FX p s m meth c G R M0 d "HeadCountModel" bM_one 2 (some .int)) (hC : CBs l G d C) : ∀ (a0 : Nat) (x1 : Int32) (M : Mem) (H : Heap) (locs : List Loc) (cells slots : Nat) (ls : Array Slot), fM_one_0 n d C a0 x1 M = some (r, M') → RL G M0 M H locs cells slots → lv_has ls 2 [(0, .ref a0), (1, .int x1)] → W p l e R s m args below meth c H locs cells slots (CQ G below s M0 r M') (F0 m 0 ls []) := by
  obtain ⟨hx, hb, hml, hown, hrt, hlk, hex, hK, hRm⟩ := id F
  intro a0 x1 M H locs cells slots ls h hR hl
  unfold fM_one_0 at h
  refine lv_iload_n hx hb dM_one_0 rfl (lv_at hl 1 rfl) ?_
  refine lv_bipush (v := 33) hx hb dM_one_1 (by decide) ?_
  refine lv_icmp_ne (tgt := 21) hx hb dM_one_3 (by decide) (fun c_1 => ?_) (fun c_1 => ?_)
  · replace h := rz_f c_1 h
    refine lv_iload_n hx hb dM_one_21 rfl (lv_at hl 1 rfl) ?_
    refine lv_bipush (v := 40) hx hb dM_one_22 (by decide) ?_
    refine lv_icmp_ne (tgt := 42) hx hb dM_one_24 (by decide) (fun c_2 => ?_) (fun c_2 => ?_)
    · replace h := rz_f c_2 h
      refine lv_iload_n hx hb dM_one_42 rfl (lv_at hl 1 rfl) ?_
      refine lv_bipush (v := 65) hx hb dM_one_43 (by decide) ?_
      refine lv_icmp_eq (tgt := 54) hx hb dM_one_45 (by decide) (fun c_3 => ?_) (fun c_3 => ?_)
      · replace h := rz_t c_3 h
        exact tM_one_54 F hC a0 x1 _ _ _ _ _ _ h hR (lv_sub hl [0, 1] rfl)
      · replace h := rz_f c_3 h
        refine lv_iload_n hx hb dM_one_48 rfl (lv_at hl 1 rfl) ?_
        refine lv_bipush (v := 69) hx hb dM_one_49 (by decide) ?_
        refine lv_icmp_ne (tgt := 93) hx hb dM_one_51 (by decide) (fun c_4 => ?_) (fun c_4 => ?_)
        · replace h := rz_f c_4 h
          refine lv_aload_n hx hb dM_one_93 rfl (lv_at hl 0 rfl) ?_
          refine lv_iconst (v := 0) hx hb dM_one_94 (by decide) ?_
          obtain ⟨c_5, h⟩ := rz_chk h
          obtain ⟨M_6, q_7, h⟩ := rz_m h
          refine rg_putI hx hb hown hK hR hk_M 33 (by decide) kf_M_101 rfl rfl (ty := .int) (by decide +kernel) (Or.inl rfl) rfl c_5 dM_one_95 (fun H locs hR => ?_)
          rw [← q_7] at hR
          have c_8 : mK M_6 a0 = 5 := by rw [q_7]; exact c_5
          refine lv_iload_n hx hb dM_one_98 rfl (lv_at hl 1 rfl) ?_
          refine lv_bipush (v := 91) hx hb dM_one_99 (by decide) ?_
          refine lv_icmp_ne (tgt := 113) hx hb dM_one_101 (by decide) (fun c_9 => ?_) (fun c_9 => ?_)
          · replace h := rz_f c_9 h
            refine lv_aload_n hx hb dM_one_113 rfl (lv_at hl 0 rfl) ?_
            refine lv_iload_n hx hb dM_one_114 rfl (lv_at hl 1 rfl) ?_
            obtain ⟨q_13, M_11, h_12, h⟩ := rz_c h
            refine rc_V (rest := []) (As := [.int x1]) hx hb (hl.1.trans hml.symm) hown hK hR hRm mfM_sum kl_M_104 hk_M rfl rfl c_8 (by simp [cat_rf, cat_i, cat_a, cat_l, cat_n]) (hC 76 _ _ _ _ h_12) dM_one_115 (fun v1 H locs cells slots ev hR => ?_) (fun x1 q1 ce1 H locs cells slots ex hR g1 g2 g3 => ?_)
            · rcases h with ⟨v_10, ev2, h⟩ | ⟨e2, ee2, -⟩
              · cases ev.symm.trans ev2
                replace h := rz_i h
                obtain ⟨x_14, rfl, h⟩ := h
                dsimp only [Option.toList, List.cons_append, List.nil_append]
                cases h
                exact rt_i hx hb hlk hrt (Or.inl rfl) rfl hR dM_one_118
              · cases ev.symm.trans ee2
            · rcases h with ⟨v2, ev2, -⟩ | ⟨e2, ee2, h⟩
              · cases ex.symm.trans ev2
              · cases ex.symm.trans ee2
                cases h
                exact rt_x hlk hex hR g1 g2 g3
          · replace h := rz_t c_9 h
            refine lv_aload_n hx hb dM_one_104 rfl (lv_at hl 0 rfl) ?_
            refine lv_bipush (v := 6) hx hb dM_one_105 (by decide) ?_
            obtain ⟨q_18, M_16, h_17, h⟩ := rz_c h
            refine rc_V (rest := []) (As := [.int 6]) hx hb (hl.1.trans hml.symm) hown hK hR hRm mfM_push kl_M_78 hk_M rfl rfl c_8 (by simp [cat_rf, cat_i, cat_a, cat_l, cat_n]) (hC 75 _ _ _ _ h_17) dM_one_107 (fun v1 H locs cells slots ev hR => ?_) (fun x1 q1 ce1 H locs cells slots ex hR g1 g2 g3 => ?_)
            · rcases h with ⟨v_15, ev2, h⟩ | ⟨e2, ee2, -⟩
              · cases ev.symm.trans ev2
                replace h := rz_v h
                obtain ⟨rfl, h⟩ := h
                dsimp only [Option.toList, List.cons_append, List.nil_append]
                refine lv_bipush (v := 8) hx hb dM_one_110 (by decide) ?_
                cases h
                exact rt_i hx hb hlk hrt (Or.inl rfl) rfl hR dM_one_112
              · cases ev.symm.trans ee2
            · rcases h with ⟨v2, ev2, -⟩ | ⟨e2, ee2, h⟩
              · cases ex.symm.trans ev2
              · cases ex.symm.trans ee2
                cases h
                exact rt_x hlk hex hR g1 g2 g3
        · replace h := rz_t c_4 h
          exact tM_one_54 F hC a0 x1 _ _ _ _ _ _ h hR (lv_sub hl [0, 1] rfl)
    · replace h := rz_t c_2 h
      refine lv_aload_n hx hb dM_one_27 rfl (lv_at hl 0 rfl) ?_
      refine lv_iconst (v := 4) hx hb dM_one_28 (by decide) ?_
      obtain ⟨c_19, h⟩ := rz_chk h
      obtain ⟨q_23, M_21, h_22, h⟩ := rz_c h
      refine rc_V (rest := []) (As := [.int 4]) hx hb (hl.1.trans hml.symm) hown hK hR hRm mfM_deeper kl_M_90 hk_M rfl rfl c_19 (by simp [cat_rf, cat_i, cat_a, cat_l, cat_n]) (hC 74 _ _ _ _ h_22) dM_one_29 (fun v1 H locs cells slots ev hR => ?_) (fun x1 q1 ce1 H locs cells slots ex hR g1 g2 g3 => ?_)
      · rcases h with ⟨v_20, ev2, h⟩ | ⟨e2, ee2, -⟩
        · cases ev.symm.trans ev2
          replace h := rz_i h
          obtain ⟨x_24, rfl, h⟩ := h
          dsimp only [Option.toList, List.cons_append, List.nil_append]
          refine lv_if_eq (tgt := 39) hx hb dM_one_32 (by decide) (fun c_25 => ?_) (fun c_25 => ?_)
          · replace h := rz_t c_25 h
            refine lv_bipush (v := 10) hx hb dM_one_39 (by decide) ?_
            exact tM_one_41 F hC 10 _ _ _ _ _ _ h hR (lv_sub hl [] rfl)
          · replace h := rz_f c_25 h
            refine lv_iconst (v := 0) hx hb dM_one_35 (by decide) ?_
            refine lv_goto (tgt := 41) hx hb dM_one_36 (by decide) ?_
            exact tM_one_41 F hC 0 _ _ _ _ _ _ h hR (lv_sub hl [] rfl)
        · cases ev.symm.trans ee2
      · rcases h with ⟨v2, ev2, -⟩ | ⟨e2, ee2, h⟩
        · cases ex.symm.trans ev2
        · cases ex.symm.trans ee2
          cases h
          exact rt_x hlk hex hR g1 g2 g3
  · replace h := rz_t c_1 h
    refine lv_aload_n hx hb dM_one_6 rfl (lv_at hl 0 rfl) ?_
    refine lv_iconst (v := 3) hx hb dM_one_7 (by decide) ?_
    obtain ⟨c_26, h⟩ := rz_chk h
    obtain ⟨q_30, M_28, h_29, h⟩ := rz_c h
    refine rc_V (rest := []) (As := [.int 3]) hx hb (hl.1.trans hml.symm) hown hK hR hRm mfM_deeper kl_M_90 hk_M rfl rfl c_26 (by simp [cat_rf, cat_i, cat_a, cat_l, cat_n]) (hC 74 _ _ _ _ h_29) dM_one_8 (fun v1 H locs cells slots ev hR => ?_) (fun x1 q1 ce1 H locs cells slots ex hR g1 g2 g3 => ?_)
    · rcases h with ⟨v_27, ev2, h⟩ | ⟨e2, ee2, -⟩
      · cases ev.symm.trans ev2
        replace h := rz_i h
        obtain ⟨x_31, rfl, h⟩ := h
        dsimp only [Option.toList, List.cons_append, List.nil_append]
        refine lv_if_eq (tgt := 18) hx hb dM_one_11 (by decide) (fun c_32 => ?_) (fun c_32 => ?_)
        · replace h := rz_t c_32 h
          refine lv_bipush (v := 10) hx hb dM_one_18 (by decide) ?_
          exact tM_one_20 F hC 10 _ _ _ _ _ _ h hR (lv_sub hl [] rfl)
        · replace h := rz_f c_32 h
          refine lv_iconst (v := 0) hx hb dM_one_14 (by decide) ?_
          refine lv_goto (tgt := 20) hx hb dM_one_15 (by decide) ?_
          exact tM_one_20 F hC 0 _ _ _ _ _ _ h hR (lv_sub hl [] rfl)
      · cases ev.symm.trans ee2
    · rcases h with ⟨v2, ev2, -⟩ | ⟨e2, ee2, h⟩
      · cases ex.symm.trans ev2
      · cases ex.symm.trans ee2
        cases h
        exact rt_x hlk hex hR g1 g2 g3
set_option maxRecDepth 100000 in
set_option maxHeartbeats 4000000 in
theorem sM_one {l : Launch} {G : Gx} {n d : Nat} {C : Cx} (hC : CBs l G d C) (a0 : Nat) (x1 : Int32) {M M' : Mem} {r : Option Value ⊕ Nat} (h : fM_one_0 n d C a0 x1 M = some (r, M')) : CB l G (d + 1) yM_one [.ref a0, .int x1] M r M' := by
  intro p e R s m below meth c hx hn hm hc hlk hK hR hcap hS hU hfr hlo hrc hrs
  obtain ⟨hb, hml, hrt, hex, hown⟩ := fx_of hn hm hc (hK.w mfM_one.2.2.1 rfl #[])
  have F : FX p s m meth c G R M d "HeadCountModel" bM_one 2 (some .int) := ⟨hx, hb, hml, hown, hrt, hlk, hex, hK, hfr, hlo, by rw [← hcap]; exact hrc, hrs⟩
  rw [hml]
  have hl := lv_entry ([.ref a0, .int x1]) (n := 2) (by simp [lg_sl, cat_rf, cat_i, cat_a, cat_l, cat_n])
  rw [lg_entry_eq]
  generalize (lg_sl ([.ref a0, .int x1]) ++ List.replicate (2 - (lg_sl ([.ref a0, .int x1])).length) Slot.unset).toArray = ls at hl ⊢
  have hl : lv_has ls 2 [(0, .ref a0), (1, .int x1)] := by simpa [lv_args, cat_rf, cat_i, cat_a, cat_l, cat_n] using hl
  exact tM_one_0 F hC a0 x1 _ _ _ _ _ _ h (RL.start hR hcap hS hU) (lv_sub hl [0, 1] rfl)
def fM_sum_59 (n d : Nat) (C : Cx) (xs0 : Int32) (M : Mem) : Rz := some (.inl (some (.int xs0)), M)
set_option maxRecDepth 100000 in
set_option maxHeartbeats 4000000 in
theorem tM_sum_59 {n : Nat} (F : FX p s m meth c G R M0 d "HeadCountModel" bM_sum 2 (some .int)) (hC : CBs l G d C) : ∀ (xs0 : Int32) (M : Mem) (H : Heap) (locs : List Loc) (cells slots : Nat) (ls : Array Slot), fM_sum_59 n d C xs0 M = some (r, M') → RL G M0 M H locs cells slots → lv_has ls 2 [] → W p l e R s m args below meth c H locs cells slots (CQ G below s M0 r M') (F0 m 59 ls [.int xs0]) := by
  obtain ⟨hx, hb, hml, hown, hrt, hlk, hex, hK, hRm⟩ := id F
  intro xs0 M H locs cells slots ls h hR hl
  unfold fM_sum_59 at h
  cases h
  exact rt_i hx hb hlk hrt (Or.inl rfl) rfl hR dM_sum_59
def fM_sum_40 (n d : Nat) (C : Cx) (a0 : Nat) (x1 : Int32) (xs0 : Int32) (as1 : Nat) (M : Mem) : Rz := if mK M as1 = 5 then (if fits .boolean (.int xs0) = true then (rzM (setI M as1 32 xs0) fun M_3 => (if mK M_3 a0 = 5 then (if (mI M_3 a0 30) = 0 then (rzC (C 77 [.ref a0, .int x1] M_3) fun v_8 M_9 => (rzI v_8 fun x_12 => (fM_sum_59 n d C x_12 M_9))) else (fM_sum_59 n d C 4 M_3)) else none)) else none) else none
set_option maxRecDepth 100000 in
set_option maxHeartbeats 4000000 in
theorem tM_sum_40 {n : Nat} (F : FX p s m meth c G R M0 d "HeadCountModel" bM_sum 2 (some .int)) (hC : CBs l G d C) : ∀ (a0 : Nat) (x1 : Int32) (xs0 : Int32) (as1 : Nat) (M : Mem) (H : Heap) (locs : List Loc) (cells slots : Nat) (ls : Array Slot), fM_sum_40 n d C a0 x1 xs0 as1 M = some (r, M') → RL G M0 M H locs cells slots → lv_has ls 2 [(0, .ref a0), (1, .int x1)] → W p l e R s m args below meth c H locs cells slots (CQ G below s M0 r M') (F0 m 40 ls [.int xs0, .ref as1]) := by
  obtain ⟨hx, hb, hml, hown, hrt, hlk, hex, hK, hRm⟩ := id F
  intro a0 x1 xs0 as1 M H locs cells slots ls h hR hl
  unfold fM_sum_40 at h
  obtain ⟨c_1, h⟩ := rz_chk h
  obtain ⟨c_2, h⟩ := rz_chk h
  obtain ⟨M_3, q_4, h⟩ := rz_m h
  refine rg_putI hx hb hown hK hR hk_M 32 (by decide) kf_M_126 rfl rfl (ty := .boolean) (by decide +kernel) (Or.inr (Or.inr rfl)) c_2 c_1 dM_sum_40 (fun H locs hR => ?_)
  rw [← q_4] at hR
  have c_5 : mK M_3 as1 = 5 := by rw [q_4]; exact c_1
  refine lv_aload_n hx hb dM_sum_43 rfl (lv_at hl 0 rfl) ?_
  obtain ⟨c_6, h⟩ := rz_chk h
  refine rg_getI hx hb hown hK hR hk_M 30 (by decide) kf_M_120 rfl c_6 dM_sum_44 ?_
  refine lv_if_eq (tgt := 54) hx hb dM_sum_47 (by decide) (fun c_7 => ?_) (fun c_7 => ?_)
  · replace h := rz_t c_7 h
    refine lv_aload_n hx hb dM_sum_54 rfl (lv_at hl 0 rfl) ?_
    refine lv_iload_n hx hb dM_sum_55 rfl (lv_at hl 1 rfl) ?_
    obtain ⟨q_11, M_9, h_10, h⟩ := rz_c h
    refine rc_V (rest := []) (As := [.int x1]) hx hb (hl.1.trans hml.symm) hown hK hR hRm mfM_part kl_M_129 hk_M rfl rfl c_6 (by simp [cat_rf, cat_i, cat_a, cat_l, cat_n]) (hC 77 _ _ _ _ h_10) dM_sum_56 (fun v1 H locs cells slots ev hR => ?_) (fun x1 q1 ce1 H locs cells slots ex hR g1 g2 g3 => ?_)
    · rcases h with ⟨v_8, ev2, h⟩ | ⟨e2, ee2, -⟩
      · cases ev.symm.trans ev2
        replace h := rz_i h
        obtain ⟨x_12, rfl, h⟩ := h
        dsimp only [Option.toList, List.cons_append, List.nil_append]
        exact tM_sum_59 F hC x_12 _ _ _ _ _ _ h hR (lv_sub hl [] rfl)
      · cases ev.symm.trans ee2
    · rcases h with ⟨v2, ev2, -⟩ | ⟨e2, ee2, h⟩
      · cases ex.symm.trans ev2
      · cases ex.symm.trans ee2
        cases h
        exact rt_x hlk hex hR g1 g2 g3
  · replace h := rz_f c_7 h
    refine lv_iconst (v := 4) hx hb dM_sum_50 (by decide) ?_
    refine lv_goto (tgt := 59) hx hb dM_sum_51 (by decide) ?_
    exact tM_sum_59 F hC 4 _ _ _ _ _ _ h hR (lv_sub hl [] rfl)
def fM_sum_39 (n d : Nat) (C : Cx) (a0 : Nat) (x1 : Int32) (as0 : Nat) (M : Mem) : Rz := fM_sum_40 n d C a0 x1 0 as0 M
set_option maxRecDepth 100000 in
set_option maxHeartbeats 4000000 in
theorem tM_sum_39 {n : Nat} (F : FX p s m meth c G R M0 d "HeadCountModel" bM_sum 2 (some .int)) (hC : CBs l G d C) : ∀ (a0 : Nat) (x1 : Int32) (as0 : Nat) (M : Mem) (H : Heap) (locs : List Loc) (cells slots : Nat) (ls : Array Slot), fM_sum_39 n d C a0 x1 as0 M = some (r, M') → RL G M0 M H locs cells slots → lv_has ls 2 [(0, .ref a0), (1, .int x1)] → W p l e R s m args below meth c H locs cells slots (CQ G below s M0 r M') (F0 m 39 ls [.ref as0]) := by
  obtain ⟨hx, hb, hml, hown, hrt, hlk, hex, hK, hRm⟩ := id F
  intro a0 x1 as0 M H locs cells slots ls h hR hl
  unfold fM_sum_39 at h
  refine lv_iconst (v := 0) hx hb dM_sum_39 (by decide) ?_
  exact tM_sum_40 F hC a0 x1 0 as0 _ _ _ _ _ _ h hR (lv_sub hl [0, 1] rfl)
def fM_sum_12 (n d : Nat) (C : Cx) (a0 : Nat) (x1 : Int32) (xs0 : Int32) (as1 : Nat) (M : Mem) : Rz := if mK M as1 = 5 then (if fits .boolean (.int xs0) = true then (rzM (setI M as1 30 xs0) fun M_3 => (if mK M_3 a0 = 5 then (if fits .boolean (.int 1) = true then (rzM (setI M_3 a0 31 1) fun M_8 => (if (mI M_8 a0 33) = 0 then (if (mI M_8 a0 30) = 0 then (fM_sum_40 n d C a0 x1 1 a0 M_8) else (fM_sum_39 n d C a0 x1 a0 M_8)) else (fM_sum_39 n d C a0 x1 a0 M_8))) else none) else none)) else none) else none
set_option maxRecDepth 100000 in
set_option maxHeartbeats 4000000 in
theorem tM_sum_12 {n : Nat} (F : FX p s m meth c G R M0 d "HeadCountModel" bM_sum 2 (some .int)) (hC : CBs l G d C) : ∀ (a0 : Nat) (x1 : Int32) (xs0 : Int32) (as1 : Nat) (M : Mem) (H : Heap) (locs : List Loc) (cells slots : Nat) (ls : Array Slot), fM_sum_12 n d C a0 x1 xs0 as1 M = some (r, M') → RL G M0 M H locs cells slots → lv_has ls 2 [(0, .ref a0), (1, .int x1)] → W p l e R s m args below meth c H locs cells slots (CQ G below s M0 r M') (F0 m 12 ls [.int xs0, .ref as1]) := by
  obtain ⟨hx, hb, hml, hown, hrt, hlk, hex, hK, hRm⟩ := id F
  intro a0 x1 xs0 as1 M H locs cells slots ls h hR hl
  unfold fM_sum_12 at h
  obtain ⟨c_1, h⟩ := rz_chk h
  obtain ⟨c_2, h⟩ := rz_chk h
  obtain ⟨M_3, q_4, h⟩ := rz_m h
  refine rg_putI hx hb hown hK hR hk_M 30 (by decide) kf_M_120 rfl rfl (ty := .boolean) (by decide +kernel) (Or.inr (Or.inr rfl)) c_2 c_1 dM_sum_12 (fun H locs hR => ?_)
  rw [← q_4] at hR
  have c_5 : mK M_3 as1 = 5 := by rw [q_4]; exact c_1
  refine lv_aload_n hx hb dM_sum_15 rfl (lv_at hl 0 rfl) ?_
  refine lv_iconst (v := 1) hx hb dM_sum_16 (by decide) ?_
  obtain ⟨c_6, h⟩ := rz_chk h
  obtain ⟨c_7, h⟩ := rz_chk h
  obtain ⟨M_8, q_9, h⟩ := rz_m h
  refine rg_putI hx hb hown hK hR hk_M 31 (by decide) kf_M_123 rfl rfl (ty := .boolean) (by decide +kernel) (Or.inr (Or.inr rfl)) c_7 c_6 dM_sum_17 (fun H locs hR => ?_)
  rw [← q_9] at hR
  have c_10 : mK M_8 as1 = 5 := by rw [q_9]; exact c_5
  have c_11 : mK M_8 a0 = 5 := by rw [q_9]; exact c_6
  refine lv_aload_n hx hb dM_sum_20 rfl (lv_at hl 0 rfl) ?_
  refine lv_aload_n hx hb dM_sum_21 rfl (lv_at hl 0 rfl) ?_
  refine rg_getI hx hb hown hK hR hk_M 33 (by decide) kf_M_101 rfl c_11 dM_sum_22 ?_
  refine lv_if_ne (tgt := 39) hx hb dM_sum_25 (by decide) (fun c_12 => ?_) (fun c_12 => ?_)
  · replace h := rz_f c_12 h
    exact tM_sum_39 F hC a0 x1 a0 _ _ _ _ _ _ h hR (lv_sub hl [0, 1] rfl)
  · replace h := rz_t c_12 h
    refine lv_aload_n hx hb dM_sum_28 rfl (lv_at hl 0 rfl) ?_
    refine rg_getI hx hb hown hK hR hk_M 30 (by decide) kf_M_120 rfl c_11 dM_sum_29 ?_
    refine lv_if_ne (tgt := 39) hx hb dM_sum_32 (by decide) (fun c_13 => ?_) (fun c_13 => ?_)
    · replace h := rz_f c_13 h
      exact tM_sum_39 F hC a0 x1 a0 _ _ _ _ _ _ h hR (lv_sub hl [0, 1] rfl)
    · replace h := rz_t c_13 h
      refine lv_iconst (v := 1) hx hb dM_sum_35 (by decide) ?_
      refine lv_goto (tgt := 40) hx hb dM_sum_36 (by decide) ?_
      exact tM_sum_40 F hC a0 x1 1 a0 _ _ _ _ _ _ h hR (lv_sub hl [0, 1] rfl)
def fM_sum_0 (n d : Nat) (C : Cx) (a0 : Nat) (x1 : Int32) (M : Mem) : Rz := if x1 = 45 then (fM_sum_12 n d C a0 x1 1 a0 M) else (fM_sum_12 n d C a0 x1 0 a0 M)
set_option maxRecDepth 100000 in
set_option maxHeartbeats 4000000 in
theorem tM_sum_0 {n : Nat} (F : FX p s m meth c G R M0 d "HeadCountModel" bM_sum 2 (some .int)) (hC : CBs l G d C) : ∀ (a0 : Nat) (x1 : Int32) (M : Mem) (H : Heap) (locs : List Loc) (cells slots : Nat) (ls : Array Slot), fM_sum_0 n d C a0 x1 M = some (r, M') → RL G M0 M H locs cells slots → lv_has ls 2 [(0, .ref a0), (1, .int x1)] → W p l e R s m args below meth c H locs cells slots (CQ G below s M0 r M') (F0 m 0 ls []) := by
  obtain ⟨hx, hb, hml, hown, hrt, hlk, hex, hK, hRm⟩ := id F
  intro a0 x1 M H locs cells slots ls h hR hl
  unfold fM_sum_0 at h
  refine lv_aload_n hx hb dM_sum_0 rfl (lv_at hl 0 rfl) ?_
  refine lv_iload_n hx hb dM_sum_1 rfl (lv_at hl 1 rfl) ?_
  refine lv_bipush (v := 45) hx hb dM_sum_2 (by decide) ?_
  refine lv_icmp_ne (tgt := 11) hx hb dM_sum_4 (by decide) (fun c_1 => ?_) (fun c_1 => ?_)
  · replace h := rz_f c_1 h
    refine lv_iconst (v := 0) hx hb dM_sum_11 (by decide) ?_
    exact tM_sum_12 F hC a0 x1 0 a0 _ _ _ _ _ _ h hR (lv_sub hl [0, 1] rfl)
  · replace h := rz_t c_1 h
    refine lv_iconst (v := 1) hx hb dM_sum_7 (by decide) ?_
    refine lv_goto (tgt := 12) hx hb dM_sum_8 (by decide) ?_
    exact tM_sum_12 F hC a0 x1 1 a0 _ _ _ _ _ _ h hR (lv_sub hl [0, 1] rfl)
set_option maxRecDepth 100000 in
set_option maxHeartbeats 4000000 in
theorem sM_sum {l : Launch} {G : Gx} {n d : Nat} {C : Cx} (hC : CBs l G d C) (a0 : Nat) (x1 : Int32) {M M' : Mem} {r : Option Value ⊕ Nat} (h : fM_sum_0 n d C a0 x1 M = some (r, M')) : CB l G (d + 1) yM_sum [.ref a0, .int x1] M r M' := by
  intro p e R s m below meth c hx hn hm hc hlk hK hR hcap hS hU hfr hlo hrc hrs
  obtain ⟨hb, hml, hrt, hex, hown⟩ := fx_of hn hm hc (hK.w mfM_sum.2.2.1 rfl #[])
  have F : FX p s m meth c G R M d "HeadCountModel" bM_sum 2 (some .int) := ⟨hx, hb, hml, hown, hrt, hlk, hex, hK, hfr, hlo, by rw [← hcap]; exact hrc, hrs⟩
  rw [hml]
  have hl := lv_entry ([.ref a0, .int x1]) (n := 2) (by simp [lg_sl, cat_rf, cat_i, cat_a, cat_l, cat_n])
  rw [lg_entry_eq]
  generalize (lg_sl ([.ref a0, .int x1]) ++ List.replicate (2 - (lg_sl ([.ref a0, .int x1])).length) Slot.unset).toArray = ls at hl ⊢
  have hl : lv_has ls 2 [(0, .ref a0), (1, .int x1)] := by simpa [lv_args, cat_rf, cat_i, cat_a, cat_l, cat_n] using hl
  exact tM_sum_0 F hC a0 x1 _ _ _ _ _ _ h (RL.start hR hcap hS hU) (lv_sub hl [0, 1] rfl)
def fM_part_0 (n d : Nat) (C : Cx) (a0 : Nat) (x1 : Int32) (M : Mem) : Rz := if mK M a0 = 5 then (if fits .boolean (.int 0) = true then (rzM (setI M a0 28 0) fun M_3 => (rzC (C 78 [.int x1] M_3) fun v_6 M_7 => (rzI v_6 fun x_10 => (if x_10 = 0 then (if mK M_7 a0 = 5 then (rzC (C 79 [.ref a0, .int x1] M_7) fun v_13 M_14 => (rzI v_13 fun x_17 => (some (.inl (some (.int x_17)), M_14)))) else none) else (if mK M_7 a0 = 5 then (rzM (setI M_7 a0 26 (x1 - 48)) fun M_19 => (rzM (setI M_19 a0 27 1) fun M_22 => (some (.inl (some (.int 5)), M_22)))) else none))))) else none) else none
set_option maxRecDepth 100000 in
set_option maxHeartbeats 4000000 in
theorem tM_part_0 {n : Nat} (F : FX p s m meth c G R M0 d "HeadCountModel" bM_part 2 (some .int)) (hC : CBs l G d C) : ∀ (a0 : Nat) (x1 : Int32) (M : Mem) (H : Heap) (locs : List Loc) (cells slots : Nat) (ls : Array Slot), fM_part_0 n d C a0 x1 M = some (r, M') → RL G M0 M H locs cells slots → lv_has ls 2 [(0, .ref a0), (1, .int x1)] → W p l e R s m args below meth c H locs cells slots (CQ G below s M0 r M') (F0 m 0 ls []) := by
  obtain ⟨hx, hb, hml, hown, hrt, hlk, hex, hK, hRm⟩ := id F
  intro a0 x1 M H locs cells slots ls h hR hl
  unfold fM_part_0 at h
  refine lv_aload_n hx hb dM_part_0 rfl (lv_at hl 0 rfl) ?_
  refine lv_iconst (v := 0) hx hb dM_part_1 (by decide) ?_
  obtain ⟨c_1, h⟩ := rz_chk h
  obtain ⟨c_2, h⟩ := rz_chk h
  obtain ⟨M_3, q_4, h⟩ := rz_m h
  refine rg_putI hx hb hown hK hR hk_M 28 (by decide) kf_M_132 rfl rfl (ty := .boolean) (by decide +kernel) (Or.inr (Or.inr rfl)) c_2 c_1 dM_part_2 (fun H locs hR => ?_)
  rw [← q_4] at hR
  have c_5 : mK M_3 a0 = 5 := by rw [q_4]; exact c_1
  refine lv_iload_n hx hb dM_part_5 rfl (lv_at hl 1 rfl) ?_
  obtain ⟨q_9, M_7, h_8, h⟩ := rz_c h
  refine rc_S (rest := []) (As := [.int x1]) hx hb (hl.1.trans hml.symm) hown hK hR hRm mfM_isDigit kl_M_135 rfl (by simp [cat_rf, cat_i, cat_a, cat_l, cat_n]) (hC 78 _ _ _ _ h_8) dM_part_6 (fun v1 H locs cells slots ev hR => ?_) (fun x1 q1 ce1 H locs cells slots ex hR g1 g2 g3 => ?_)
  · rcases h with ⟨v_6, ev2, h⟩ | ⟨e2, ee2, -⟩
    · cases ev.symm.trans ev2
      replace h := rz_i h
      obtain ⟨x_10, rfl, h⟩ := h
      dsimp only [Option.toList, List.cons_append, List.nil_append]
      refine lv_if_eq (tgt := 27) hx hb dM_part_9 (by decide) (fun c_11 => ?_) (fun c_11 => ?_)
      · replace h := rz_t c_11 h
        refine lv_aload_n hx hb dM_part_27 rfl (lv_at hl 0 rfl) ?_
        refine lv_iload_n hx hb dM_part_28 rfl (lv_at hl 1 rfl) ?_
        obtain ⟨c_12, h⟩ := rz_chk h
        obtain ⟨q_16, M_14, h_15, h⟩ := rz_c h
        refine rc_V (rest := []) (As := [.int x1]) hx hb (hl.1.trans hml.symm) hown hK hR hRm mfM_thing kl_M_145 hk_M rfl rfl c_12 (by simp [cat_rf, cat_i, cat_a, cat_l, cat_n]) (hC 79 _ _ _ _ h_15) dM_part_29 (fun v1 H locs cells slots ev hR => ?_) (fun x1 q1 ce1 H locs cells slots ex hR g1 g2 g3 => ?_)
        · rcases h with ⟨v_13, ev2, h⟩ | ⟨e2, ee2, -⟩
          · cases ev.symm.trans ev2
            replace h := rz_i h
            obtain ⟨x_17, rfl, h⟩ := h
            dsimp only [Option.toList, List.cons_append, List.nil_append]
            cases h
            exact rt_i hx hb hlk hrt (Or.inl rfl) rfl hR dM_part_32
          · cases ev.symm.trans ee2
        · rcases h with ⟨v2, ev2, -⟩ | ⟨e2, ee2, h⟩
          · cases ex.symm.trans ev2
          · cases ex.symm.trans ee2
            cases h
            exact rt_x hlk hex hR g1 g2 g3
      · replace h := rz_f c_11 h
        refine lv_aload_n hx hb dM_part_12 rfl (lv_at hl 0 rfl) ?_
        refine lv_iload_n hx hb dM_part_13 rfl (lv_at hl 1 rfl) ?_
        refine lv_bipush (v := 48) hx hb dM_part_14 (by decide) ?_
        refine lv_isub hx hb dM_part_16 ?_
        obtain ⟨c_18, h⟩ := rz_chk h
        obtain ⟨M_19, q_20, h⟩ := rz_m h
        refine rg_putI hx hb hown hK hR hk_M 26 (by decide) kf_M_139 rfl rfl (ty := .int) (by decide +kernel) (Or.inl rfl) rfl c_18 dM_part_17 (fun H locs hR => ?_)
        rw [← q_20] at hR
        have c_21 : mK M_19 a0 = 5 := by rw [q_20]; exact c_18
        refine lv_aload_n hx hb dM_part_20 rfl (lv_at hl 0 rfl) ?_
        refine lv_iconst (v := 1) hx hb dM_part_21 (by decide) ?_
        obtain ⟨M_22, q_23, h⟩ := rz_m h
        refine rg_putI hx hb hown hK hR hk_M 27 (by decide) kf_M_142 rfl rfl (ty := .int) (by decide +kernel) (Or.inl rfl) rfl c_21 dM_part_22 (fun H locs hR => ?_)
        rw [← q_23] at hR
        have c_24 : mK M_22 a0 = 5 := by rw [q_23]; exact c_21
        refine lv_iconst (v := 5) hx hb dM_part_25 (by decide) ?_
        cases h
        exact rt_i hx hb hlk hrt (Or.inl rfl) rfl hR dM_part_26
    · cases ev.symm.trans ee2
  · rcases h with ⟨v2, ev2, -⟩ | ⟨e2, ee2, h⟩
    · cases ex.symm.trans ev2
    · cases ex.symm.trans ee2
      cases h
      exact rt_x hlk hex hR g1 g2 g3
set_option maxRecDepth 100000 in
set_option maxHeartbeats 4000000 in
theorem sM_part {l : Launch} {G : Gx} {n d : Nat} {C : Cx} (hC : CBs l G d C) (a0 : Nat) (x1 : Int32) {M M' : Mem} {r : Option Value ⊕ Nat} (h : fM_part_0 n d C a0 x1 M = some (r, M')) : CB l G (d + 1) yM_part [.ref a0, .int x1] M r M' := by
  intro p e R s m below meth c hx hn hm hc hlk hK hR hcap hS hU hfr hlo hrc hrs
  obtain ⟨hb, hml, hrt, hex, hown⟩ := fx_of hn hm hc (hK.w mfM_part.2.2.1 rfl #[])
  have F : FX p s m meth c G R M d "HeadCountModel" bM_part 2 (some .int) := ⟨hx, hb, hml, hown, hrt, hlk, hex, hK, hfr, hlo, by rw [← hcap]; exact hrc, hrs⟩
  rw [hml]
  have hl := lv_entry ([.ref a0, .int x1]) (n := 2) (by simp [lg_sl, cat_rf, cat_i, cat_a, cat_l, cat_n])
  rw [lg_entry_eq]
  generalize (lg_sl ([.ref a0, .int x1]) ++ List.replicate (2 - (lg_sl ([.ref a0, .int x1])).length) Slot.unset).toArray = ls at hl ⊢
  have hl : lv_has ls 2 [(0, .ref a0), (1, .int x1)] := by simpa [lv_args, cat_rf, cat_i, cat_a, cat_l, cat_n] using hl
  exact tM_part_0 F hC a0 x1 _ _ _ _ _ _ h (RL.start hR hcap hS hU) (lv_sub hl [0, 1] rfl)
def fM_thing_80 (n d : Nat) (C : Cx) (a0 : Nat) (M : Mem) : Rz := if mK M a0 = 5 then (rzC (C 82 [.ref a0] M) fun v_2 M_3 => (rzV v_2 (some (.inl (some (.int 7)), M_3)))) else none
set_option maxRecDepth 100000 in
set_option maxHeartbeats 4000000 in
theorem tM_thing_80 {n : Nat} (F : FX p s m meth c G R M0 d "HeadCountModel" bM_thing 3 (some .int)) (hC : CBs l G d C) : ∀ (a0 : Nat) (M : Mem) (H : Heap) (locs : List Loc) (cells slots : Nat) (ls : Array Slot), fM_thing_80 n d C a0 M = some (r, M') → RL G M0 M H locs cells slots → lv_has ls 3 [(0, .ref a0)] → W p l e R s m args below meth c H locs cells slots (CQ G below s M0 r M') (F0 m 80 ls []) := by
  obtain ⟨hx, hb, hml, hown, hrt, hlk, hex, hK, hRm⟩ := id F
  intro a0 M H locs cells slots ls h hR hl
  unfold fM_thing_80 at h
  refine lv_aload_n hx hb dM_thing_80 rfl (lv_at hl 0 rfl) ?_
  obtain ⟨c_1, h⟩ := rz_chk h
  obtain ⟨q_5, M_3, h_4, h⟩ := rz_c h
  refine rc_V (rest := []) (As := []) hx hb (hl.1.trans hml.symm) hown hK hR hRm mfM_wholePart kl_M_154 hk_M rfl rfl c_1 (by simp [cat_rf, cat_i, cat_a, cat_l, cat_n]) (hC 82 _ _ _ _ h_4) dM_thing_81 (fun v1 H locs cells slots ev hR => ?_) (fun x1 q1 ce1 H locs cells slots ex hR g1 g2 g3 => ?_)
  · rcases h with ⟨v_2, ev2, h⟩ | ⟨e2, ee2, -⟩
    · cases ev.symm.trans ev2
      replace h := rz_v h
      obtain ⟨rfl, h⟩ := h
      dsimp only [Option.toList, List.cons_append, List.nil_append]
      refine lv_bipush (v := 7) hx hb dM_thing_84 (by decide) ?_
      cases h
      exact rt_i hx hb hlk hrt (Or.inl rfl) rfl hR dM_thing_86
    · cases ev.symm.trans ee2
  · rcases h with ⟨v2, ev2, -⟩ | ⟨e2, ee2, h⟩
    · cases ex.symm.trans ev2
    · cases ex.symm.trans ee2
      cases h
      exact rt_x hlk hex hR g1 g2 g3
def fM_thing_43 (n d : Nat) (C : Cx) (xs0 : Int32) (M : Mem) : Rz := some (.inl (some (.int xs0)), M)
set_option maxRecDepth 100000 in
set_option maxHeartbeats 4000000 in
theorem tM_thing_43 {n : Nat} (F : FX p s m meth c G R M0 d "HeadCountModel" bM_thing 3 (some .int)) (hC : CBs l G d C) : ∀ (xs0 : Int32) (M : Mem) (H : Heap) (locs : List Loc) (cells slots : Nat) (ls : Array Slot), fM_thing_43 n d C xs0 M = some (r, M') → RL G M0 M H locs cells slots → lv_has ls 3 [] → W p l e R s m args below meth c H locs cells slots (CQ G below s M0 r M') (F0 m 43 ls [.int xs0]) := by
  obtain ⟨hx, hb, hml, hown, hrt, hlk, hex, hK, hRm⟩ := id F
  intro xs0 M H locs cells slots ls h hR hl
  unfold fM_thing_43 at h
  cases h
  exact rt_i hx hb hlk hrt (Or.inl rfl) rfl hR dM_thing_43
def fM_thing_77 (n d : Nat) (C : Cx) (M : Mem) : Rz := some (.inl (some (.int 10)), M)
set_option maxRecDepth 100000 in
set_option maxHeartbeats 4000000 in
theorem tM_thing_77 {n : Nat} (F : FX p s m meth c G R M0 d "HeadCountModel" bM_thing 3 (some .int)) (hC : CBs l G d C) : ∀ (M : Mem) (H : Heap) (locs : List Loc) (cells slots : Nat) (ls : Array Slot), fM_thing_77 n d C M = some (r, M') → RL G M0 M H locs cells slots → lv_has ls 3 [] → W p l e R s m args below meth c H locs cells slots (CQ G below s M0 r M') (F0 m 77 ls []) := by
  obtain ⟨hx, hb, hml, hown, hrt, hlk, hex, hK, hRm⟩ := id F
  intro M H locs cells slots ls h hR hl
  unfold fM_thing_77 at h
  refine lv_bipush (v := 10) hx hb dM_thing_77 (by decide) ?_
  cases h
  exact rt_i hx hb hlk hrt (Or.inl rfl) rfl hR dM_thing_79
def fM_thing_0 (n d : Nat) (C : Cx) (a0 : Nat) (x1 : Int32) (M : Mem) : Rz := rzC (C 80 [.int x1] M) fun v_1 M_2 => (rzI v_1 fun x_5 => (if x1 = 110 then (if mK M_2 a0 = 5 then (rzC (C 81 [.ref a0, .int 15, .int 0] M_2) fun v_29 M_30 => (rzV v_29 (fM_thing_80 n d C a0 M_30))) else none) else (if x1 = 35 then (if mK M_2 a0 = 5 then (rzC (C 74 [.ref a0, .int 11] M_2) fun v_22 M_23 => (rzI v_22 fun x_26 => (if x_26 = 0 then (fM_thing_43 n d C 10 M_23) else (fM_thing_43 n d C 8 M_23)))) else none) else (if x_5 < 0 then (fM_thing_77 n d C M_2) else (if 3 ≤ x_5 then (fM_thing_77 n d C M_2) else (if mK M_2 a0 = 5 then (rzD (mP M_2 a0 23) fun a_11 => (if mK M_2 a_11 = 21 then (if inA x_5 (mL M_2 a_11) then (if (mI M_2 a_11 x_5.toNatClampNeg) < 0 then (fM_thing_77 n d C M_2) else (if inA x_5 (mL M_2 a_11) then (rzC (C 81 [.ref a0, .int 14, .int (mI M_2 a_11 x_5.toNatClampNeg)] M_2) fun v_17 M_18 => (rzV v_17 (fM_thing_80 n d C a0 M_18))) else none)) else none) else none)) else none))))))
set_option maxRecDepth 100000 in
set_option maxHeartbeats 4000000 in
theorem tM_thing_0 {n : Nat} (F : FX p s m meth c G R M0 d "HeadCountModel" bM_thing 3 (some .int)) (hC : CBs l G d C) : ∀ (a0 : Nat) (x1 : Int32) (M : Mem) (H : Heap) (locs : List Loc) (cells slots : Nat) (ls : Array Slot), fM_thing_0 n d C a0 x1 M = some (r, M') → RL G M0 M H locs cells slots → lv_has ls 3 [(0, .ref a0), (1, .int x1)] → W p l e R s m args below meth c H locs cells slots (CQ G below s M0 r M') (F0 m 0 ls []) := by
  obtain ⟨hx, hb, hml, hown, hrt, hlk, hex, hK, hRm⟩ := id F
  intro a0 x1 M H locs cells slots ls h hR hl
  unfold fM_thing_0 at h
  refine lv_iload_n hx hb dM_thing_0 rfl (lv_at hl 1 rfl) ?_
  obtain ⟨q_4, M_2, h_3, h⟩ := rz_c h
  refine rc_S (rest := []) (As := [.int x1]) hx hb (hl.1.trans hml.symm) hown hK hR hRm mfM_variableOf kl_M_108 rfl (by simp [cat_rf, cat_i, cat_a, cat_l, cat_n]) (hC 80 _ _ _ _ h_3) dM_thing_1 (fun v1 H locs cells slots ev hR => ?_) (fun x1 q1 ce1 H locs cells slots ex hR g1 g2 g3 => ?_)
  · rcases h with ⟨v_1, ev2, h⟩ | ⟨e2, ee2, -⟩
    · cases ev.symm.trans ev2
      replace h := rz_i h
      obtain ⟨x_5, rfl, h⟩ := h
      dsimp only [Option.toList, List.cons_append, List.nil_append]
      refine lv_istore_n (lv' := [(2, .int x_5), (0, .ref a0), (1, .int x1)]) hx hb dM_thing_4 rfl hl (by decide) rfl (fun ls hl => ?_)
      refine lv_iload_n hx hb dM_thing_5 rfl (lv_at hl 2 rfl) ?_
      refine lv_bipush (v := 110) hx hb dM_thing_6 (by decide) ?_
      refine lv_icmp_ne (tgt := 21) hx hb dM_thing_8 (by decide) (fun c_6 => ?_) (fun c_6 => ?_)
      · replace h := rz_f c_6 h
        refine lv_iload_n hx hb dM_thing_21 rfl (lv_at hl 2 rfl) ?_
        refine lv_bipush (v := 35) hx hb dM_thing_22 (by decide) ?_
        refine lv_icmp_ne (tgt := 44) hx hb dM_thing_24 (by decide) (fun c_7 => ?_) (fun c_7 => ?_)
        · replace h := rz_f c_7 h
          refine lv_iload_n hx hb dM_thing_44 rfl (lv_at hl 0 rfl) ?_
          refine lv_if_lt (tgt := 77) hx hb dM_thing_45 (by decide) (fun c_8 => ?_) (fun c_8 => ?_)
          · replace h := rz_t c_8 h
            exact tM_thing_77 F hC _ _ _ _ _ _ h hR (lv_sub hl [] rfl)
          · replace h := rz_f c_8 h
            refine lv_iload_n hx hb dM_thing_48 rfl (lv_at hl 0 rfl) ?_
            refine lv_iconst (v := 3) hx hb dM_thing_49 (by decide) ?_
            refine lv_icmp_ge (tgt := 77) hx hb dM_thing_50 (by decide) (fun c_9 => ?_) (fun c_9 => ?_)
            · replace h := rz_t c_9 h
              exact tM_thing_77 F hC _ _ _ _ _ _ h hR (lv_sub hl [] rfl)
            · replace h := rz_f c_9 h
              refine lv_aload_n hx hb dM_thing_53 rfl (lv_at hl 1 rfl) ?_
              obtain ⟨c_10, h⟩ := rz_chk h
              refine rg_getP hx hb hown hK hR hk_M 23 (by decide) kf_M_48 rfl c_10 dM_thing_54 ?_
              refine lv_iload_n hx hb dM_thing_57 rfl (lv_at hl 0 rfl) ?_
              obtain ⟨a_11, e_12, h⟩ := rz_d h
              rw [e_12]
              obtain ⟨c_13, h⟩ := rz_chk h
              obtain ⟨c_14, h⟩ := rz_chk h
              refine rg_iald hx hb hK hR c_13 c_14 dM_thing_58 ?_
              refine lv_if_lt (tgt := 77) hx hb dM_thing_59 (by decide) (fun c_15 => ?_) (fun c_15 => ?_)
              · replace h := rz_t c_15 h
                exact tM_thing_77 F hC _ _ _ _ _ _ h hR (lv_sub hl [] rfl)
              · replace h := rz_f c_15 h
                refine lv_aload_n hx hb dM_thing_62 rfl (lv_at hl 1 rfl) ?_
                refine lv_bipush (v := 14) hx hb dM_thing_63 (by decide) ?_
                refine lv_aload_n hx hb dM_thing_65 rfl (lv_at hl 1 rfl) ?_
                refine rg_getP hx hb hown hK hR hk_M 23 (by decide) kf_M_48 rfl c_10 dM_thing_66 ?_
                refine lv_iload_n hx hb dM_thing_69 rfl (lv_at hl 0 rfl) ?_
                rw [e_12]
                obtain ⟨c_16, h⟩ := rz_chk h
                refine rg_iald hx hb hK hR c_13 c_16 dM_thing_70 ?_
                obtain ⟨q_20, M_18, h_19, h⟩ := rz_c h
                refine rc_V (rest := []) (As := [.int 14, .int (mI M_2 a_11 x_5.toNatClampNeg)]) hx hb (hl.1.trans hml.symm) hown hK hR hRm mfM_emit kl_M_86 hk_M rfl rfl c_10 (by simp [cat_rf, cat_i, cat_a, cat_l, cat_n]) (hC 81 _ _ _ _ h_19) dM_thing_71 (fun v1 H locs cells slots ev hR => ?_) (fun x1 q1 ce1 H locs cells slots ex hR g1 g2 g3 => ?_)
                · rcases h with ⟨v_17, ev2, h⟩ | ⟨e2, ee2, -⟩
                  · cases ev.symm.trans ev2
                    replace h := rz_v h
                    obtain ⟨rfl, h⟩ := h
                    dsimp only [Option.toList, List.cons_append, List.nil_append]
                    refine lv_goto (tgt := 80) hx hb dM_thing_74 (by decide) ?_
                    exact tM_thing_80 F hC a0 _ _ _ _ _ _ h hR (lv_sub hl [1] rfl)
                  · cases ev.symm.trans ee2
                · rcases h with ⟨v2, ev2, -⟩ | ⟨e2, ee2, h⟩
                  · cases ex.symm.trans ev2
                  · cases ex.symm.trans ee2
                    cases h
                    exact rt_x hlk hex hR g1 g2 g3
        · replace h := rz_t c_7 h
          refine lv_aload_n hx hb dM_thing_27 rfl (lv_at hl 1 rfl) ?_
          refine lv_bipush (v := 11) hx hb dM_thing_28 (by decide) ?_
          obtain ⟨c_21, h⟩ := rz_chk h
          obtain ⟨q_25, M_23, h_24, h⟩ := rz_c h
          refine rc_V (rest := []) (As := [.int 11]) hx hb (hl.1.trans hml.symm) hown hK hR hRm mfM_deeper kl_M_90 hk_M rfl rfl c_21 (by simp [cat_rf, cat_i, cat_a, cat_l, cat_n]) (hC 74 _ _ _ _ h_24) dM_thing_30 (fun v1 H locs cells slots ev hR => ?_) (fun x1 q1 ce1 H locs cells slots ex hR g1 g2 g3 => ?_)
          · rcases h with ⟨v_22, ev2, h⟩ | ⟨e2, ee2, -⟩
            · cases ev.symm.trans ev2
              replace h := rz_i h
              obtain ⟨x_26, rfl, h⟩ := h
              dsimp only [Option.toList, List.cons_append, List.nil_append]
              refine lv_if_eq (tgt := 41) hx hb dM_thing_33 (by decide) (fun c_27 => ?_) (fun c_27 => ?_)
              · replace h := rz_t c_27 h
                refine lv_bipush (v := 10) hx hb dM_thing_41 (by decide) ?_
                exact tM_thing_43 F hC 10 _ _ _ _ _ _ h hR (lv_sub hl [] rfl)
              · replace h := rz_f c_27 h
                refine lv_bipush (v := 8) hx hb dM_thing_36 (by decide) ?_
                refine lv_goto (tgt := 43) hx hb dM_thing_38 (by decide) ?_
                exact tM_thing_43 F hC 8 _ _ _ _ _ _ h hR (lv_sub hl [] rfl)
            · cases ev.symm.trans ee2
          · rcases h with ⟨v2, ev2, -⟩ | ⟨e2, ee2, h⟩
            · cases ex.symm.trans ev2
            · cases ex.symm.trans ee2
              cases h
              exact rt_x hlk hex hR g1 g2 g3
      · replace h := rz_t c_6 h
        refine lv_aload_n hx hb dM_thing_11 rfl (lv_at hl 1 rfl) ?_
        refine lv_bipush (v := 15) hx hb dM_thing_12 (by decide) ?_
        refine lv_iconst (v := 0) hx hb dM_thing_14 (by decide) ?_
        obtain ⟨c_28, h⟩ := rz_chk h
        obtain ⟨q_32, M_30, h_31, h⟩ := rz_c h
        refine rc_V (rest := []) (As := [.int 15, .int 0]) hx hb (hl.1.trans hml.symm) hown hK hR hRm mfM_emit kl_M_86 hk_M rfl rfl c_28 (by simp [cat_rf, cat_i, cat_a, cat_l, cat_n]) (hC 81 _ _ _ _ h_31) dM_thing_15 (fun v1 H locs cells slots ev hR => ?_) (fun x1 q1 ce1 H locs cells slots ex hR g1 g2 g3 => ?_)
        · rcases h with ⟨v_29, ev2, h⟩ | ⟨e2, ee2, -⟩
          · cases ev.symm.trans ev2
            replace h := rz_v h
            obtain ⟨rfl, h⟩ := h
            dsimp only [Option.toList, List.cons_append, List.nil_append]
            refine lv_goto (tgt := 80) hx hb dM_thing_18 (by decide) ?_
            exact tM_thing_80 F hC a0 _ _ _ _ _ _ h hR (lv_sub hl [1] rfl)
          · cases ev.symm.trans ee2
        · rcases h with ⟨v2, ev2, -⟩ | ⟨e2, ee2, h⟩
          · cases ex.symm.trans ev2
          · cases ex.symm.trans ee2
            cases h
            exact rt_x hlk hex hR g1 g2 g3
    · cases ev.symm.trans ee2
  · rcases h with ⟨v2, ev2, -⟩ | ⟨e2, ee2, h⟩
    · cases ex.symm.trans ev2
    · cases ex.symm.trans ee2
      cases h
      exact rt_x hlk hex hR g1 g2 g3
set_option maxRecDepth 100000 in
set_option maxHeartbeats 4000000 in
theorem sM_thing {l : Launch} {G : Gx} {n d : Nat} {C : Cx} (hC : CBs l G d C) (a0 : Nat) (x1 : Int32) {M M' : Mem} {r : Option Value ⊕ Nat} (h : fM_thing_0 n d C a0 x1 M = some (r, M')) : CB l G (d + 1) yM_thing [.ref a0, .int x1] M r M' := by
  intro p e R s m below meth c hx hn hm hc hlk hK hR hcap hS hU hfr hlo hrc hrs
  obtain ⟨hb, hml, hrt, hex, hown⟩ := fx_of hn hm hc (hK.w mfM_thing.2.2.1 rfl #[])
  have F : FX p s m meth c G R M d "HeadCountModel" bM_thing 3 (some .int) := ⟨hx, hb, hml, hown, hrt, hlk, hex, hK, hfr, hlo, by rw [← hcap]; exact hrc, hrs⟩
  rw [hml]
  have hl := lv_entry ([.ref a0, .int x1]) (n := 3) (by simp [lg_sl, cat_rf, cat_i, cat_a, cat_l, cat_n])
  rw [lg_entry_eq]
  generalize (lg_sl ([.ref a0, .int x1]) ++ List.replicate (3 - (lg_sl ([.ref a0, .int x1])).length) Slot.unset).toArray = ls at hl ⊢
  have hl : lv_has ls 3 [(0, .ref a0), (1, .int x1)] := by simpa [lv_args, cat_rf, cat_i, cat_a, cat_l, cat_n] using hl
  exact tM_thing_0 F hC a0 x1 _ _ _ _ _ _ h (RL.start hR hcap hS hU) (lv_sub hl [0, 1] rfl)
def fM_wholePart_45 (n d : Nat) (C : Cx) (a0 : Nat) (M : Mem) : Rz := if mK M a0 = 5 then (if fits .boolean (.int 0) = true then (rzM (setI M a0 31 0) fun M_3 => (if fits .boolean (.int 0) = true then (rzM (setI M_3 a0 32 0) fun M_7 => (if fits .boolean (.int 0) = true then (rzM (setI M_7 a0 28 0) fun M_11 => (some (.inl none, M_11))) else none)) else none)) else none) else none
set_option maxRecDepth 100000 in
set_option maxHeartbeats 4000000 in
theorem tM_wholePart_45 {n : Nat} (F : FX p s m meth c G R M0 d "HeadCountModel" bM_wholePart 1 none) (hC : CBs l G d C) : ∀ (a0 : Nat) (M : Mem) (H : Heap) (locs : List Loc) (cells slots : Nat) (ls : Array Slot), fM_wholePart_45 n d C a0 M = some (r, M') → RL G M0 M H locs cells slots → lv_has ls 1 [(0, .ref a0)] → W p l e R s m args below meth c H locs cells slots (CQ G below s M0 r M') (F0 m 45 ls []) := by
  obtain ⟨hx, hb, hml, hown, hrt, hlk, hex, hK, hRm⟩ := id F
  intro a0 M H locs cells slots ls h hR hl
  unfold fM_wholePart_45 at h
  refine lv_aload_n hx hb dM_wholePart_45 rfl (lv_at hl 0 rfl) ?_
  refine lv_iconst (v := 0) hx hb dM_wholePart_46 (by decide) ?_
  obtain ⟨c_1, h⟩ := rz_chk h
  obtain ⟨c_2, h⟩ := rz_chk h
  obtain ⟨M_3, q_4, h⟩ := rz_m h
  refine rg_putI hx hb hown hK hR hk_M 31 (by decide) kf_M_123 rfl rfl (ty := .boolean) (by decide +kernel) (Or.inr (Or.inr rfl)) c_2 c_1 dM_wholePart_47 (fun H locs hR => ?_)
  rw [← q_4] at hR
  have c_5 : mK M_3 a0 = 5 := by rw [q_4]; exact c_1
  refine lv_aload_n hx hb dM_wholePart_50 rfl (lv_at hl 0 rfl) ?_
  refine lv_iconst (v := 0) hx hb dM_wholePart_51 (by decide) ?_
  obtain ⟨c_6, h⟩ := rz_chk h
  obtain ⟨M_7, q_8, h⟩ := rz_m h
  refine rg_putI hx hb hown hK hR hk_M 32 (by decide) kf_M_126 rfl rfl (ty := .boolean) (by decide +kernel) (Or.inr (Or.inr rfl)) c_6 c_5 dM_wholePart_52 (fun H locs hR => ?_)
  rw [← q_8] at hR
  have c_9 : mK M_7 a0 = 5 := by rw [q_8]; exact c_5
  refine lv_aload_n hx hb dM_wholePart_55 rfl (lv_at hl 0 rfl) ?_
  refine lv_iconst (v := 0) hx hb dM_wholePart_56 (by decide) ?_
  obtain ⟨c_10, h⟩ := rz_chk h
  obtain ⟨M_11, q_12, h⟩ := rz_m h
  refine rg_putI hx hb hown hK hR hk_M 28 (by decide) kf_M_132 rfl rfl (ty := .boolean) (by decide +kernel) (Or.inr (Or.inr rfl)) c_10 c_9 dM_wholePart_57 (fun H locs hR => ?_)
  rw [← q_12] at hR
  have c_13 : mK M_11 a0 = 5 := by rw [q_12]; exact c_9
  cases h
  exact rt_v hx hb hlk hrt hR dM_wholePart_60
def fM_wholePart_31 (n d : Nat) (C : Cx) (a0 : Nat) (M : Mem) : Rz := if mK M a0 = 5 then (if (mI M a0 31) = 0 then (rzC (C 81 [.ref a0, .int 18, .int 0] M) fun v_3 M_4 => (rzV v_3 (fM_wholePart_45 n d C a0 M_4))) else (fM_wholePart_45 n d C a0 M)) else none
set_option maxRecDepth 100000 in
set_option maxHeartbeats 4000000 in
theorem tM_wholePart_31 {n : Nat} (F : FX p s m meth c G R M0 d "HeadCountModel" bM_wholePart 1 none) (hC : CBs l G d C) : ∀ (a0 : Nat) (M : Mem) (H : Heap) (locs : List Loc) (cells slots : Nat) (ls : Array Slot), fM_wholePart_31 n d C a0 M = some (r, M') → RL G M0 M H locs cells slots → lv_has ls 1 [(0, .ref a0)] → W p l e R s m args below meth c H locs cells slots (CQ G below s M0 r M') (F0 m 31 ls []) := by
  obtain ⟨hx, hb, hml, hown, hrt, hlk, hex, hK, hRm⟩ := id F
  intro a0 M H locs cells slots ls h hR hl
  unfold fM_wholePart_31 at h
  refine lv_aload_n hx hb dM_wholePart_31 rfl (lv_at hl 0 rfl) ?_
  obtain ⟨c_1, h⟩ := rz_chk h
  refine rg_getI hx hb hown hK hR hk_M 31 (by decide) kf_M_123 rfl c_1 dM_wholePart_32 ?_
  refine lv_if_ne (tgt := 45) hx hb dM_wholePart_35 (by decide) (fun c_2 => ?_) (fun c_2 => ?_)
  · replace h := rz_f c_2 h
    exact tM_wholePart_45 F hC a0 _ _ _ _ _ _ h hR (lv_sub hl [0] rfl)
  · replace h := rz_t c_2 h
    refine lv_aload_n hx hb dM_wholePart_38 rfl (lv_at hl 0 rfl) ?_
    refine lv_bipush (v := 18) hx hb dM_wholePart_39 (by decide) ?_
    refine lv_iconst (v := 0) hx hb dM_wholePart_41 (by decide) ?_
    obtain ⟨q_6, M_4, h_5, h⟩ := rz_c h
    refine rc_V (rest := []) (As := [.int 18, .int 0]) hx hb (hl.1.trans hml.symm) hown hK hR hRm mfM_emit kl_M_86 hk_M rfl rfl c_1 (by simp [cat_rf, cat_i, cat_a, cat_l, cat_n]) (hC 81 _ _ _ _ h_5) dM_wholePart_42 (fun v1 H locs cells slots ev hR => ?_) (fun x1 q1 ce1 H locs cells slots ex hR g1 g2 g3 => ?_)
    · rcases h with ⟨v_3, ev2, h⟩ | ⟨e2, ee2, -⟩
      · cases ev.symm.trans ev2
        replace h := rz_v h
        obtain ⟨rfl, h⟩ := h
        dsimp only [Option.toList, List.cons_append, List.nil_append]
        exact tM_wholePart_45 F hC a0 _ _ _ _ _ _ h hR (lv_sub hl [0] rfl)
      · cases ev.symm.trans ee2
    · rcases h with ⟨v2, ev2, -⟩ | ⟨e2, ee2, h⟩
      · cases ex.symm.trans ev2
      · cases ex.symm.trans ee2
        cases h
        exact rt_x hlk hex hR g1 g2 g3
def fM_wholePart_17 (n d : Nat) (C : Cx) (a0 : Nat) (M : Mem) : Rz := if mK M a0 = 5 then (if (mI M a0 30) = 0 then (fM_wholePart_31 n d C a0 M) else (rzC (C 81 [.ref a0, .int 17, .int 0] M) fun v_3 M_4 => (rzV v_3 (fM_wholePart_31 n d C a0 M_4)))) else none
set_option maxRecDepth 100000 in
set_option maxHeartbeats 4000000 in
theorem tM_wholePart_17 {n : Nat} (F : FX p s m meth c G R M0 d "HeadCountModel" bM_wholePart 1 none) (hC : CBs l G d C) : ∀ (a0 : Nat) (M : Mem) (H : Heap) (locs : List Loc) (cells slots : Nat) (ls : Array Slot), fM_wholePart_17 n d C a0 M = some (r, M') → RL G M0 M H locs cells slots → lv_has ls 1 [(0, .ref a0)] → W p l e R s m args below meth c H locs cells slots (CQ G below s M0 r M') (F0 m 17 ls []) := by
  obtain ⟨hx, hb, hml, hown, hrt, hlk, hex, hK, hRm⟩ := id F
  intro a0 M H locs cells slots ls h hR hl
  unfold fM_wholePart_17 at h
  refine lv_aload_n hx hb dM_wholePart_17 rfl (lv_at hl 0 rfl) ?_
  obtain ⟨c_1, h⟩ := rz_chk h
  refine rg_getI hx hb hown hK hR hk_M 30 (by decide) kf_M_120 rfl c_1 dM_wholePart_18 ?_
  refine lv_if_eq (tgt := 31) hx hb dM_wholePart_21 (by decide) (fun c_2 => ?_) (fun c_2 => ?_)
  · replace h := rz_t c_2 h
    exact tM_wholePart_31 F hC a0 _ _ _ _ _ _ h hR (lv_sub hl [0] rfl)
  · replace h := rz_f c_2 h
    refine lv_aload_n hx hb dM_wholePart_24 rfl (lv_at hl 0 rfl) ?_
    refine lv_bipush (v := 17) hx hb dM_wholePart_25 (by decide) ?_
    refine lv_iconst (v := 0) hx hb dM_wholePart_27 (by decide) ?_
    obtain ⟨q_6, M_4, h_5, h⟩ := rz_c h
    refine rc_V (rest := []) (As := [.int 17, .int 0]) hx hb (hl.1.trans hml.symm) hown hK hR hRm mfM_emit kl_M_86 hk_M rfl rfl c_1 (by simp [cat_rf, cat_i, cat_a, cat_l, cat_n]) (hC 81 _ _ _ _ h_5) dM_wholePart_28 (fun v1 H locs cells slots ev hR => ?_) (fun x1 q1 ce1 H locs cells slots ex hR g1 g2 g3 => ?_)
    · rcases h with ⟨v_3, ev2, h⟩ | ⟨e2, ee2, -⟩
      · cases ev.symm.trans ev2
        replace h := rz_v h
        obtain ⟨rfl, h⟩ := h
        dsimp only [Option.toList, List.cons_append, List.nil_append]
        exact tM_wholePart_31 F hC a0 _ _ _ _ _ _ h hR (lv_sub hl [0] rfl)
      · cases ev.symm.trans ee2
    · rcases h with ⟨v2, ev2, -⟩ | ⟨e2, ee2, h⟩
      · cases ex.symm.trans ev2
      · cases ex.symm.trans ee2
        cases h
        exact rt_x hlk hex hR g1 g2 g3
def fM_wholePart_0 (n d : Nat) (C : Cx) (a0 : Nat) (M : Mem) : Rz := if mK M a0 = 5 then (if (mI M a0 28) = 0 then (fM_wholePart_17 n d C a0 M) else (rzC (C 81 [.ref a0, .int 16, .int (mI M a0 29)] M) fun v_3 M_4 => (rzV v_3 (fM_wholePart_17 n d C a0 M_4)))) else none
set_option maxRecDepth 100000 in
set_option maxHeartbeats 4000000 in
theorem tM_wholePart_0 {n : Nat} (F : FX p s m meth c G R M0 d "HeadCountModel" bM_wholePart 1 none) (hC : CBs l G d C) : ∀ (a0 : Nat) (M : Mem) (H : Heap) (locs : List Loc) (cells slots : Nat) (ls : Array Slot), fM_wholePart_0 n d C a0 M = some (r, M') → RL G M0 M H locs cells slots → lv_has ls 1 [(0, .ref a0)] → W p l e R s m args below meth c H locs cells slots (CQ G below s M0 r M') (F0 m 0 ls []) := by
  obtain ⟨hx, hb, hml, hown, hrt, hlk, hex, hK, hRm⟩ := id F
  intro a0 M H locs cells slots ls h hR hl
  unfold fM_wholePart_0 at h
  refine lv_aload_n hx hb dM_wholePart_0 rfl (lv_at hl 0 rfl) ?_
  obtain ⟨c_1, h⟩ := rz_chk h
  refine rg_getI hx hb hown hK hR hk_M 28 (by decide) kf_M_132 rfl c_1 dM_wholePart_1 ?_
  refine lv_if_eq (tgt := 17) hx hb dM_wholePart_4 (by decide) (fun c_2 => ?_) (fun c_2 => ?_)
  · replace h := rz_t c_2 h
    exact tM_wholePart_17 F hC a0 _ _ _ _ _ _ h hR (lv_sub hl [0] rfl)
  · replace h := rz_f c_2 h
    refine lv_aload_n hx hb dM_wholePart_7 rfl (lv_at hl 0 rfl) ?_
    refine lv_bipush (v := 16) hx hb dM_wholePart_8 (by decide) ?_
    refine lv_aload_n hx hb dM_wholePart_10 rfl (lv_at hl 0 rfl) ?_
    refine rg_getI hx hb hown hK hR hk_M 29 (by decide) kf_M_148 rfl c_1 dM_wholePart_11 ?_
    obtain ⟨q_6, M_4, h_5, h⟩ := rz_c h
    refine rc_V (rest := []) (As := [.int 16, .int (mI M a0 29)]) hx hb (hl.1.trans hml.symm) hown hK hR hRm mfM_emit kl_M_86 hk_M rfl rfl c_1 (by simp [cat_rf, cat_i, cat_a, cat_l, cat_n]) (hC 81 _ _ _ _ h_5) dM_wholePart_14 (fun v1 H locs cells slots ev hR => ?_) (fun x1 q1 ce1 H locs cells slots ex hR g1 g2 g3 => ?_)
    · rcases h with ⟨v_3, ev2, h⟩ | ⟨e2, ee2, -⟩
      · cases ev.symm.trans ev2
        replace h := rz_v h
        obtain ⟨rfl, h⟩ := h
        dsimp only [Option.toList, List.cons_append, List.nil_append]
        exact tM_wholePart_17 F hC a0 _ _ _ _ _ _ h hR (lv_sub hl [0] rfl)
      · cases ev.symm.trans ee2
    · rcases h with ⟨v2, ev2, -⟩ | ⟨e2, ee2, h⟩
      · cases ex.symm.trans ev2
      · cases ex.symm.trans ee2
        cases h
        exact rt_x hlk hex hR g1 g2 g3
set_option maxRecDepth 100000 in
set_option maxHeartbeats 4000000 in
theorem sM_wholePart {l : Launch} {G : Gx} {n d : Nat} {C : Cx} (hC : CBs l G d C) (a0 : Nat) {M M' : Mem} {r : Option Value ⊕ Nat} (h : fM_wholePart_0 n d C a0 M = some (r, M')) : CB l G (d + 1) yM_wholePart [.ref a0] M r M' := by
  intro p e R s m below meth c hx hn hm hc hlk hK hR hcap hS hU hfr hlo hrc hrs
  obtain ⟨hb, hml, hrt, hex, hown⟩ := fx_of hn hm hc (hK.w mfM_wholePart.2.2.1 rfl #[])
  have F : FX p s m meth c G R M d "HeadCountModel" bM_wholePart 1 none := ⟨hx, hb, hml, hown, hrt, hlk, hex, hK, hfr, hlo, by rw [← hcap]; exact hrc, hrs⟩
  rw [hml]
  have hl := lv_entry ([.ref a0]) (n := 1) (by simp [lg_sl, cat_rf, cat_i, cat_a, cat_l, cat_n])
  rw [lg_entry_eq]
  generalize (lg_sl ([.ref a0]) ++ List.replicate (1 - (lg_sl ([.ref a0])).length) Slot.unset).toArray = ls at hl ⊢
  have hl : lv_has ls 1 [(0, .ref a0)] := by simpa [lv_args, cat_rf, cat_i, cat_a, cat_l, cat_n] using hl
  exact tM_wholePart_0 F hC a0 _ _ _ _ _ _ h (RL.start hR hcap hS hU) (lv_sub hl [0] rfl)
def fM_afterOne_52 (n d : Nat) (C : Cx) (M : Mem) : Rz := some (.inl (some (.int 10)), M)
set_option maxRecDepth 100000 in
set_option maxHeartbeats 4000000 in
theorem tM_afterOne_52 {n : Nat} (F : FX p s m meth c G R M0 d "HeadCountModel" bM_afterOne 2 (some .int)) (hC : CBs l G d C) : ∀ (M : Mem) (H : Heap) (locs : List Loc) (cells slots : Nat) (ls : Array Slot), fM_afterOne_52 n d C M = some (r, M') → RL G M0 M H locs cells slots → lv_has ls 2 [] → W p l e R s m args below meth c H locs cells slots (CQ G below s M0 r M') (F0 m 52 ls []) := by
  obtain ⟨hx, hb, hml, hown, hrt, hlk, hex, hK, hRm⟩ := id F
  intro M H locs cells slots ls h hR hl
  unfold fM_afterOne_52 at h
  refine lv_bipush (v := 10) hx hb dM_afterOne_52 (by decide) ?_
  cases h
  exact rt_i hx hb hlk hrt (Or.inl rfl) rfl hR dM_afterOne_54
def fM_afterOne_0 (n d : Nat) (C : Cx) (a0 : Nat) (x1 : Int32) (M : Mem) : Rz := if x1 = 38 then (if mK M a0 = 5 then (rzC (C 84 [.ref a0, .int 2, .int 2] M) fun v_33 M_34 => (rzV v_33 (if mK M_34 a0 = 5 then (rzC (C 75 [.ref a0, .int 2] M_34) fun v_38 M_39 => (rzV v_38 (some (.inl (some (.int 0)), M_39)))) else none))) else none) else (if mK M a0 = 5 then (rzC (C 84 [.ref a0, .int 2, .int 1] M) fun v_3 M_4 => (rzV v_3 (if x1 = 124 then (if mK M_4 a0 = 5 then (rzC (C 75 [.ref a0, .int 1] M_4) fun v_28 M_29 => (rzV v_28 (some (.inl (some (.int 0)), M_29)))) else none) else (if x1 = 41 then (if mK M_4 a0 = 5 then (rzC (C 85 [.ref a0] M_4) fun v_10 M_11 => (rzI v_10 fun x_14 => (if x_14 = 4 then (if mK M_11 a0 = 5 then (rzC (C 86 [.ref a0] M_11) fun v_17 M_18 => (rzV v_17 (if mK M_18 a0 = 5 then (rzC (C 87 [.ref a0] M_18) fun v_22 M_23 => (rzI v_22 fun x_26 => (some (.inl (some (.int x_26)), M_23)))) else none))) else none) else (fM_afterOne_52 n d C M_11)))) else none) else (fM_afterOne_52 n d C M_4))))) else none)
set_option maxRecDepth 100000 in
set_option maxHeartbeats 4000000 in
theorem tM_afterOne_0 {n : Nat} (F : FX p s m meth c G R M0 d "HeadCountModel" bM_afterOne 2 (some .int)) (hC : CBs l G d C) : ∀ (a0 : Nat) (x1 : Int32) (M : Mem) (H : Heap) (locs : List Loc) (cells slots : Nat) (ls : Array Slot), fM_afterOne_0 n d C a0 x1 M = some (r, M') → RL G M0 M H locs cells slots → lv_has ls 2 [(0, .ref a0), (1, .int x1)] → W p l e R s m args below meth c H locs cells slots (CQ G below s M0 r M') (F0 m 0 ls []) := by
  obtain ⟨hx, hb, hml, hown, hrt, hlk, hex, hK, hRm⟩ := id F
  intro a0 x1 M H locs cells slots ls h hR hl
  unfold fM_afterOne_0 at h
  refine lv_iload_n hx hb dM_afterOne_0 rfl (lv_at hl 1 rfl) ?_
  refine lv_bipush (v := 38) hx hb dM_afterOne_1 (by decide) ?_
  refine lv_icmp_ne (tgt := 19) hx hb dM_afterOne_3 (by decide) (fun c_1 => ?_) (fun c_1 => ?_)
  · replace h := rz_f c_1 h
    refine lv_aload_n hx hb dM_afterOne_19 rfl (lv_at hl 0 rfl) ?_
    refine lv_iconst (v := 2) hx hb dM_afterOne_20 (by decide) ?_
    refine lv_iconst (v := 1) hx hb dM_afterOne_21 (by decide) ?_
    obtain ⟨c_2, h⟩ := rz_chk h
    obtain ⟨q_6, M_4, h_5, h⟩ := rz_c h
    refine rc_V (rest := []) (As := [.int 2, .int 1]) hx hb (hl.1.trans hml.symm) hown hK hR hRm mfM_settle kl_M_114 hk_M rfl rfl c_2 (by simp [cat_rf, cat_i, cat_a, cat_l, cat_n]) (hC 84 _ _ _ _ h_5) dM_afterOne_22 (fun v1 H locs cells slots ev hR => ?_) (fun x1 q1 ce1 H locs cells slots ex hR g1 g2 g3 => ?_)
    · rcases h with ⟨v_3, ev2, h⟩ | ⟨e2, ee2, -⟩
      · cases ev.symm.trans ev2
        replace h := rz_v h
        obtain ⟨rfl, h⟩ := h
        dsimp only [Option.toList, List.cons_append, List.nil_append]
        refine lv_iload_n hx hb dM_afterOne_25 rfl (lv_at hl 1 rfl) ?_
        refine lv_bipush (v := 124) hx hb dM_afterOne_26 (by decide) ?_
        refine lv_icmp_ne (tgt := 38) hx hb dM_afterOne_28 (by decide) (fun c_7 => ?_) (fun c_7 => ?_)
        · replace h := rz_f c_7 h
          refine lv_iload_n hx hb dM_afterOne_38 rfl (lv_at hl 1 rfl) ?_
          refine lv_bipush (v := 41) hx hb dM_afterOne_39 (by decide) ?_
          refine lv_icmp_ne (tgt := 52) hx hb dM_afterOne_41 (by decide) (fun c_8 => ?_) (fun c_8 => ?_)
          · replace h := rz_f c_8 h
            exact tM_afterOne_52 F hC _ _ _ _ _ _ h hR (lv_sub hl [] rfl)
          · replace h := rz_t c_8 h
            refine lv_aload_n hx hb dM_afterOne_44 rfl (lv_at hl 0 rfl) ?_
            obtain ⟨c_9, h⟩ := rz_chk h
            obtain ⟨q_13, M_11, h_12, h⟩ := rz_c h
            refine rc_V (rest := []) (As := []) hx hb (hl.1.trans hml.symm) hown hK hR hRm mfM_upper kl_M_82 hk_M rfl rfl c_9 (by simp [cat_rf, cat_i, cat_a, cat_l, cat_n]) (hC 85 _ _ _ _ h_12) dM_afterOne_45 (fun v1 H locs cells slots ev hR => ?_) (fun x1 q1 ce1 H locs cells slots ex hR g1 g2 g3 => ?_)
            · rcases h with ⟨v_10, ev2, h⟩ | ⟨e2, ee2, -⟩
              · cases ev.symm.trans ev2
                replace h := rz_i h
                obtain ⟨x_14, rfl, h⟩ := h
                dsimp only [Option.toList, List.cons_append, List.nil_append]
                refine lv_iconst (v := 4) hx hb dM_afterOne_48 (by decide) ?_
                refine lv_icmp_eq (tgt := 55) hx hb dM_afterOne_49 (by decide) (fun c_15 => ?_) (fun c_15 => ?_)
                · replace h := rz_t c_15 h
                  refine lv_aload_n hx hb dM_afterOne_55 rfl (lv_at hl 0 rfl) ?_
                  obtain ⟨c_16, h⟩ := rz_chk h
                  obtain ⟨q_20, M_18, h_19, h⟩ := rz_c h
                  refine rc_V (rest := []) (As := []) hx hb (hl.1.trans hml.symm) hown hK hR hRm mfM_close kl_M_111 hk_M rfl rfl c_16 (by simp [cat_rf, cat_i, cat_a, cat_l, cat_n]) (hC 86 _ _ _ _ h_19) dM_afterOne_56 (fun v1 H locs cells slots ev hR => ?_) (fun x1 q1 ce1 H locs cells slots ex hR g1 g2 g3 => ?_)
                  · rcases h with ⟨v_17, ev2, h⟩ | ⟨e2, ee2, -⟩
                    · cases ev.symm.trans ev2
                      replace h := rz_v h
                      obtain ⟨rfl, h⟩ := h
                      dsimp only [Option.toList, List.cons_append, List.nil_append]
                      refine lv_aload_n hx hb dM_afterOne_59 rfl (lv_at hl 0 rfl) ?_
                      obtain ⟨c_21, h⟩ := rz_chk h
                      obtain ⟨q_25, M_23, h_24, h⟩ := rz_c h
                      refine rc_V (rest := []) (As := []) hx hb (hl.1.trans hml.symm) hown hK hR hRm mfM_wholeOne kl_M_117 hk_M rfl rfl c_21 (by simp [cat_rf, cat_i, cat_a, cat_l, cat_n]) (hC 87 _ _ _ _ h_24) dM_afterOne_60 (fun v1 H locs cells slots ev hR => ?_) (fun x1 q1 ce1 H locs cells slots ex hR g1 g2 g3 => ?_)
                      · rcases h with ⟨v_22, ev2, h⟩ | ⟨e2, ee2, -⟩
                        · cases ev.symm.trans ev2
                          replace h := rz_i h
                          obtain ⟨x_26, rfl, h⟩ := h
                          dsimp only [Option.toList, List.cons_append, List.nil_append]
                          cases h
                          exact rt_i hx hb hlk hrt (Or.inl rfl) rfl hR dM_afterOne_63
                        · cases ev.symm.trans ee2
                      · rcases h with ⟨v2, ev2, -⟩ | ⟨e2, ee2, h⟩
                        · cases ex.symm.trans ev2
                        · cases ex.symm.trans ee2
                          cases h
                          exact rt_x hlk hex hR g1 g2 g3
                    · cases ev.symm.trans ee2
                  · rcases h with ⟨v2, ev2, -⟩ | ⟨e2, ee2, h⟩
                    · cases ex.symm.trans ev2
                    · cases ex.symm.trans ee2
                      cases h
                      exact rt_x hlk hex hR g1 g2 g3
                · replace h := rz_f c_15 h
                  exact tM_afterOne_52 F hC _ _ _ _ _ _ h hR (lv_sub hl [] rfl)
              · cases ev.symm.trans ee2
            · rcases h with ⟨v2, ev2, -⟩ | ⟨e2, ee2, h⟩
              · cases ex.symm.trans ev2
              · cases ex.symm.trans ee2
                cases h
                exact rt_x hlk hex hR g1 g2 g3
        · replace h := rz_t c_7 h
          refine lv_aload_n hx hb dM_afterOne_31 rfl (lv_at hl 0 rfl) ?_
          refine lv_iconst (v := 1) hx hb dM_afterOne_32 (by decide) ?_
          obtain ⟨c_27, h⟩ := rz_chk h
          obtain ⟨q_31, M_29, h_30, h⟩ := rz_c h
          refine rc_V (rest := []) (As := [.int 1]) hx hb (hl.1.trans hml.symm) hown hK hR hRm mfM_push kl_M_78 hk_M rfl rfl c_27 (by simp [cat_rf, cat_i, cat_a, cat_l, cat_n]) (hC 75 _ _ _ _ h_30) dM_afterOne_33 (fun v1 H locs cells slots ev hR => ?_) (fun x1 q1 ce1 H locs cells slots ex hR g1 g2 g3 => ?_)
          · rcases h with ⟨v_28, ev2, h⟩ | ⟨e2, ee2, -⟩
            · cases ev.symm.trans ev2
              replace h := rz_v h
              obtain ⟨rfl, h⟩ := h
              dsimp only [Option.toList, List.cons_append, List.nil_append]
              refine lv_iconst (v := 0) hx hb dM_afterOne_36 (by decide) ?_
              cases h
              exact rt_i hx hb hlk hrt (Or.inl rfl) rfl hR dM_afterOne_37
            · cases ev.symm.trans ee2
          · rcases h with ⟨v2, ev2, -⟩ | ⟨e2, ee2, h⟩
            · cases ex.symm.trans ev2
            · cases ex.symm.trans ee2
              cases h
              exact rt_x hlk hex hR g1 g2 g3
      · cases ev.symm.trans ee2
    · rcases h with ⟨v2, ev2, -⟩ | ⟨e2, ee2, h⟩
      · cases ex.symm.trans ev2
      · cases ex.symm.trans ee2
        cases h
        exact rt_x hlk hex hR g1 g2 g3
  · replace h := rz_t c_1 h
    refine lv_aload_n hx hb dM_afterOne_6 rfl (lv_at hl 0 rfl) ?_
    refine lv_iconst (v := 2) hx hb dM_afterOne_7 (by decide) ?_
    refine lv_iconst (v := 2) hx hb dM_afterOne_8 (by decide) ?_
    obtain ⟨c_32, h⟩ := rz_chk h
    obtain ⟨q_36, M_34, h_35, h⟩ := rz_c h
    refine rc_V (rest := []) (As := [.int 2, .int 2]) hx hb (hl.1.trans hml.symm) hown hK hR hRm mfM_settle kl_M_114 hk_M rfl rfl c_32 (by simp [cat_rf, cat_i, cat_a, cat_l, cat_n]) (hC 84 _ _ _ _ h_35) dM_afterOne_9 (fun v1 H locs cells slots ev hR => ?_) (fun x1 q1 ce1 H locs cells slots ex hR g1 g2 g3 => ?_)
    · rcases h with ⟨v_33, ev2, h⟩ | ⟨e2, ee2, -⟩
      · cases ev.symm.trans ev2
        replace h := rz_v h
        obtain ⟨rfl, h⟩ := h
        dsimp only [Option.toList, List.cons_append, List.nil_append]
        refine lv_aload_n hx hb dM_afterOne_12 rfl (lv_at hl 0 rfl) ?_
        refine lv_iconst (v := 2) hx hb dM_afterOne_13 (by decide) ?_
        obtain ⟨c_37, h⟩ := rz_chk h
        obtain ⟨q_41, M_39, h_40, h⟩ := rz_c h
        refine rc_V (rest := []) (As := [.int 2]) hx hb (hl.1.trans hml.symm) hown hK hR hRm mfM_push kl_M_78 hk_M rfl rfl c_37 (by simp [cat_rf, cat_i, cat_a, cat_l, cat_n]) (hC 75 _ _ _ _ h_40) dM_afterOne_14 (fun v1 H locs cells slots ev hR => ?_) (fun x1 q1 ce1 H locs cells slots ex hR g1 g2 g3 => ?_)
        · rcases h with ⟨v_38, ev2, h⟩ | ⟨e2, ee2, -⟩
          · cases ev.symm.trans ev2
            replace h := rz_v h
            obtain ⟨rfl, h⟩ := h
            dsimp only [Option.toList, List.cons_append, List.nil_append]
            refine lv_iconst (v := 0) hx hb dM_afterOne_17 (by decide) ?_
            cases h
            exact rt_i hx hb hlk hrt (Or.inl rfl) rfl hR dM_afterOne_18
          · cases ev.symm.trans ee2
        · rcases h with ⟨v2, ev2, -⟩ | ⟨e2, ee2, h⟩
          · cases ex.symm.trans ev2
          · cases ex.symm.trans ee2
            cases h
            exact rt_x hlk hex hR g1 g2 g3
      · cases ev.symm.trans ee2
    · rcases h with ⟨v2, ev2, -⟩ | ⟨e2, ee2, h⟩
      · cases ex.symm.trans ev2
      · cases ex.symm.trans ee2
        cases h
        exact rt_x hlk hex hR g1 g2 g3
set_option maxRecDepth 100000 in
set_option maxHeartbeats 4000000 in
theorem sM_afterOne {l : Launch} {G : Gx} {n d : Nat} {C : Cx} (hC : CBs l G d C) (a0 : Nat) (x1 : Int32) {M M' : Mem} {r : Option Value ⊕ Nat} (h : fM_afterOne_0 n d C a0 x1 M = some (r, M')) : CB l G (d + 1) yM_afterOne [.ref a0, .int x1] M r M' := by
  intro p e R s m below meth c hx hn hm hc hlk hK hR hcap hS hU hfr hlo hrc hrs
  obtain ⟨hb, hml, hrt, hex, hown⟩ := fx_of hn hm hc (hK.w mfM_afterOne.2.2.1 rfl #[])
  have F : FX p s m meth c G R M d "HeadCountModel" bM_afterOne 2 (some .int) := ⟨hx, hb, hml, hown, hrt, hlk, hex, hK, hfr, hlo, by rw [← hcap]; exact hrc, hrs⟩
  rw [hml]
  have hl := lv_entry ([.ref a0, .int x1]) (n := 2) (by simp [lg_sl, cat_rf, cat_i, cat_a, cat_l, cat_n])
  rw [lg_entry_eq]
  generalize (lg_sl ([.ref a0, .int x1]) ++ List.replicate (2 - (lg_sl ([.ref a0, .int x1])).length) Slot.unset).toArray = ls at hl ⊢
  have hl : lv_has ls 2 [(0, .ref a0), (1, .int x1)] := by simpa [lv_args, cat_rf, cat_i, cat_a, cat_l, cat_n] using hl
  exact tM_afterOne_0 F hC a0 x1 _ _ _ _ _ _ h (RL.start hR hcap hS hU) (lv_sub hl [0, 1] rfl)
def fM_wholeOne_73 (n d : Nat) (C : Cx) (k0 : Nat → Mem → Rz) (a0 : Nat) (M : Mem) : Rz := if mK M a0 = 5 then (rzC (C 86 [.ref a0] M) fun v_2 M_3 => (rzV v_2 (k0 a0 M_3))) else none
set_option maxRecDepth 100000 in
set_option maxHeartbeats 4000000 in
theorem tM_wholeOne_73 {n : Nat} {k0 : Nat → Mem → Rz} (F : FX p s m meth c G R M0 d "HeadCountModel" bM_wholeOne 2 (some .int)) (hC : CBs l G d C) (hk0 : ∀ (a0 : Nat) (M : Mem) (H : Heap) (locs : List Loc) (cells slots : Nat) (ls : Array Slot), k0 a0 M = some (r, M') → RL G M0 M H locs cells slots → lv_has ls 2 [(0, .ref a0)] → W p l e R s m args below meth c H locs cells slots (CQ G below s M0 r M') (F0 m 0 ls [])) : ∀ (a0 : Nat) (M : Mem) (H : Heap) (locs : List Loc) (cells slots : Nat) (ls : Array Slot), fM_wholeOne_73 n d C k0 a0 M = some (r, M') → RL G M0 M H locs cells slots → lv_has ls 2 [(0, .ref a0)] → W p l e R s m args below meth c H locs cells slots (CQ G below s M0 r M') (F0 m 73 ls []) := by
  obtain ⟨hx, hb, hml, hown, hrt, hlk, hex, hK, hRm⟩ := id F
  intro a0 M H locs cells slots ls h hR hl
  unfold fM_wholeOne_73 at h
  refine lv_aload_n hx hb dM_wholeOne_73 rfl (lv_at hl 0 rfl) ?_
  obtain ⟨c_1, h⟩ := rz_chk h
  obtain ⟨q_5, M_3, h_4, h⟩ := rz_c h
  refine rc_V (rest := []) (As := []) hx hb (hl.1.trans hml.symm) hown hK hR hRm mfM_close kl_M_111 hk_M rfl rfl c_1 (by simp [cat_rf, cat_i, cat_a, cat_l, cat_n]) (hC 86 _ _ _ _ h_4) dM_wholeOne_74 (fun v1 H locs cells slots ev hR => ?_) (fun x1 q1 ce1 H locs cells slots ex hR g1 g2 g3 => ?_)
  · rcases h with ⟨v_2, ev2, h⟩ | ⟨e2, ee2, -⟩
    · cases ev.symm.trans ev2
      replace h := rz_v h
      obtain ⟨rfl, h⟩ := h
      dsimp only [Option.toList, List.cons_append, List.nil_append]
      refine lv_goto (tgt := 0) hx hb dM_wholeOne_77 (by decide) ?_
      exact hk0 a0 _ _ _ _ _ _ h hR (lv_sub hl [0] rfl)
    · cases ev.symm.trans ee2
  · rcases h with ⟨v2, ev2, -⟩ | ⟨e2, ee2, h⟩
    · cases ex.symm.trans ev2
    · cases ex.symm.trans ee2
      cases h
      exact rt_x hlk hex hR g1 g2 g3
def fM_wholeOne_16 (n d : Nat) (C : Cx) (k0 : Nat → Mem → Rz) (a0 : Nat) (M : Mem) : Rz := if mK M a0 = 5 then (rzD (mP M a0 21) fun a_2 => (if mK M a_2 = 21 then (if inA ((mI M a0 19) - 1) (mL M a_2) then (rzC (C 85 [.ref a0] M) fun v_6 M_7 => (rzI v_6 fun x_10 => (if x_10 = 3 then (if mK M_7 a0 = 5 then (rzC (C 81 [.ref a0, .int 3, .int 0] M_7) fun v_36 M_37 => (rzV v_36 (fM_wholeOne_73 n d C k0 a0 M_37))) else none) else (if mK M_7 a0 = 5 then (rzD (mP M_7 a0 23) fun a_13 => (if mK M_7 a_13 = 21 then (if inA (mI M a_2 ((mI M a0 19) - 1).toNatClampNeg) (mL M_7 a_13) then (rzC (C 81 [.ref a0, .int 5, .int (mI M_7 a_13 (mI M a_2 ((mI M a0 19) - 1).toNatClampNeg).toNatClampNeg)] M_7) fun v_17 M_18 => (rzV v_17 (if mK M_18 a0 = 5 then (rzD (mP M_18 a0 22) fun a_22 => (if mK M_18 a_22 = 21 then (if inA ((mI M_18 a0 19) - 1) (mL M_18 a_22) then (rzD (mP M_18 a0 23) fun a_26 => (if mK M_18 a_26 = 21 then (if inA (mI M a_2 ((mI M a0 19) - 1).toNatClampNeg) (mL M_18 a_26) then (rzM (setI M_18 a_26 (mI M a_2 ((mI M a0 19) - 1).toNatClampNeg).toNatClampNeg (mI M_18 a_22 ((mI M_18 a0 19) - 1).toNatClampNeg)) fun M_30 => (fM_wholeOne_73 n d C k0 a0 M_30)) else none) else none)) else none) else none)) else none))) else none) else none)) else none)))) else none) else none)) else none
set_option maxRecDepth 100000 in
set_option maxHeartbeats 4000000 in
theorem tM_wholeOne_16 {n : Nat} {k0 : Nat → Mem → Rz} (F : FX p s m meth c G R M0 d "HeadCountModel" bM_wholeOne 2 (some .int)) (hC : CBs l G d C) (hk0 : ∀ (a0 : Nat) (M : Mem) (H : Heap) (locs : List Loc) (cells slots : Nat) (ls : Array Slot), k0 a0 M = some (r, M') → RL G M0 M H locs cells slots → lv_has ls 2 [(0, .ref a0)] → W p l e R s m args below meth c H locs cells slots (CQ G below s M0 r M') (F0 m 0 ls [])) : ∀ (a0 : Nat) (M : Mem) (H : Heap) (locs : List Loc) (cells slots : Nat) (ls : Array Slot), fM_wholeOne_16 n d C k0 a0 M = some (r, M') → RL G M0 M H locs cells slots → lv_has ls 2 [(0, .ref a0)] → W p l e R s m args below meth c H locs cells slots (CQ G below s M0 r M') (F0 m 16 ls []) := by
  obtain ⟨hx, hb, hml, hown, hrt, hlk, hex, hK, hRm⟩ := id F
  intro a0 M H locs cells slots ls h hR hl
  unfold fM_wholeOne_16 at h
  refine lv_aload_n hx hb dM_wholeOne_16 rfl (lv_at hl 0 rfl) ?_
  obtain ⟨c_1, h⟩ := rz_chk h
  refine rg_getP hx hb hown hK hR hk_M 21 (by decide) kf_M_42 rfl c_1 dM_wholeOne_17 ?_
  refine lv_aload_n hx hb dM_wholeOne_20 rfl (lv_at hl 0 rfl) ?_
  refine rg_getI hx hb hown hK hR hk_M 19 (by decide) kf_M_72 rfl c_1 dM_wholeOne_21 ?_
  refine lv_iconst (v := 1) hx hb dM_wholeOne_24 (by decide) ?_
  refine lv_isub hx hb dM_wholeOne_25 ?_
  obtain ⟨a_2, e_3, h⟩ := rz_d h
  rw [e_3]
  obtain ⟨c_4, h⟩ := rz_chk h
  obtain ⟨c_5, h⟩ := rz_chk h
  refine rg_iald hx hb hK hR c_4 c_5 dM_wholeOne_26 ?_
  refine lv_istore_n (lv' := [(1, .int (mI M a_2 ((mI M a0 19) - 1).toNatClampNeg)), (0, .ref a0)]) hx hb dM_wholeOne_27 rfl hl (by decide) rfl (fun ls hl => ?_)
  refine lv_aload_n hx hb dM_wholeOne_28 rfl (lv_at hl 1 rfl) ?_
  obtain ⟨q_9, M_7, h_8, h⟩ := rz_c h
  refine rc_V (rest := []) (As := []) hx hb (hl.1.trans hml.symm) hown hK hR hRm mfM_upper kl_M_82 hk_M rfl rfl c_1 (by simp [cat_rf, cat_i, cat_a, cat_l, cat_n]) (hC 85 _ _ _ _ h_8) dM_wholeOne_29 (fun v1 H locs cells slots ev hR => ?_) (fun x1 q1 ce1 H locs cells slots ex hR g1 g2 g3 => ?_)
  · rcases h with ⟨v_6, ev2, h⟩ | ⟨e2, ee2, -⟩
    · cases ev.symm.trans ev2
      replace h := rz_i h
      obtain ⟨x_10, rfl, h⟩ := h
      dsimp only [Option.toList, List.cons_append, List.nil_append]
      refine lv_iconst (v := 3) hx hb dM_wholeOne_32 (by decide) ?_
      refine lv_icmp_ne (tgt := 45) hx hb dM_wholeOne_33 (by decide) (fun c_11 => ?_) (fun c_11 => ?_)
      · replace h := rz_f c_11 h
        refine lv_aload_n hx hb dM_wholeOne_45 rfl (lv_at hl 1 rfl) ?_
        refine lv_iconst (v := 5) hx hb dM_wholeOne_46 (by decide) ?_
        refine lv_aload_n hx hb dM_wholeOne_47 rfl (lv_at hl 1 rfl) ?_
        obtain ⟨c_12, h⟩ := rz_chk h
        refine rg_getP hx hb hown hK hR hk_M 23 (by decide) kf_M_48 rfl c_12 dM_wholeOne_48 ?_
        refine lv_iload_n hx hb dM_wholeOne_51 rfl (lv_at hl 0 rfl) ?_
        obtain ⟨a_13, e_14, h⟩ := rz_d h
        rw [e_14]
        obtain ⟨c_15, h⟩ := rz_chk h
        obtain ⟨c_16, h⟩ := rz_chk h
        refine rg_iald hx hb hK hR c_15 c_16 dM_wholeOne_52 ?_
        obtain ⟨q_20, M_18, h_19, h⟩ := rz_c h
        refine rc_V (rest := []) (As := [.int 5, .int (mI M_7 a_13 (mI M a_2 ((mI M a0 19) - 1).toNatClampNeg).toNatClampNeg)]) hx hb (hl.1.trans hml.symm) hown hK hR hRm mfM_emit kl_M_86 hk_M rfl rfl c_12 (by simp [cat_rf, cat_i, cat_a, cat_l, cat_n]) (hC 81 _ _ _ _ h_19) dM_wholeOne_53 (fun v1 H locs cells slots ev hR => ?_) (fun x1 q1 ce1 H locs cells slots ex hR g1 g2 g3 => ?_)
        · rcases h with ⟨v_17, ev2, h⟩ | ⟨e2, ee2, -⟩
          · cases ev.symm.trans ev2
            replace h := rz_v h
            obtain ⟨rfl, h⟩ := h
            dsimp only [Option.toList, List.cons_append, List.nil_append]
            refine lv_aload_n hx hb dM_wholeOne_56 rfl (lv_at hl 1 rfl) ?_
            obtain ⟨c_21, h⟩ := rz_chk h
            refine rg_getP hx hb hown hK hR hk_M 23 (by decide) kf_M_48 rfl c_21 dM_wholeOne_57 ?_
            refine lv_iload_n hx hb dM_wholeOne_60 rfl (lv_at hl 0 rfl) ?_
            refine lv_aload_n hx hb dM_wholeOne_61 rfl (lv_at hl 1 rfl) ?_
            refine rg_getP hx hb hown hK hR hk_M 22 (by decide) kf_M_45 rfl c_21 dM_wholeOne_62 ?_
            refine lv_aload_n hx hb dM_wholeOne_65 rfl (lv_at hl 1 rfl) ?_
            refine rg_getI hx hb hown hK hR hk_M 19 (by decide) kf_M_72 rfl c_21 dM_wholeOne_66 ?_
            refine lv_iconst (v := 1) hx hb dM_wholeOne_69 (by decide) ?_
            refine lv_isub hx hb dM_wholeOne_70 ?_
            obtain ⟨a_22, e_23, h⟩ := rz_d h
            rw [e_23]
            obtain ⟨c_24, h⟩ := rz_chk h
            obtain ⟨c_25, h⟩ := rz_chk h
            refine rg_iald hx hb hK hR c_24 c_25 dM_wholeOne_71 ?_
            obtain ⟨a_26, e_27, h⟩ := rz_d h
            rw [e_27]
            obtain ⟨c_28, h⟩ := rz_chk h
            obtain ⟨c_29, h⟩ := rz_chk h
            obtain ⟨M_30, q_31, h⟩ := rz_m h
            refine rg_iast hx hb hK hR c_28 c_29 dM_wholeOne_72 (fun H locs hR => ?_)
            rw [← q_31] at hR
            have c_32 : mK M_30 a0 = 5 := by rw [q_31]; exact c_21
            have c_33 : mK M_30 a_22 = 21 := by rw [q_31]; exact c_24
            have c_34 : mK M_30 a_26 = 21 := by rw [q_31]; exact c_28
            exact tM_wholeOne_73 F hC hk0 a0 _ _ _ _ _ _ h hR (lv_sub hl [1] rfl)
          · cases ev.symm.trans ee2
        · rcases h with ⟨v2, ev2, -⟩ | ⟨e2, ee2, h⟩
          · cases ex.symm.trans ev2
          · cases ex.symm.trans ee2
            cases h
            exact rt_x hlk hex hR g1 g2 g3
      · replace h := rz_t c_11 h
        refine lv_aload_n hx hb dM_wholeOne_36 rfl (lv_at hl 1 rfl) ?_
        refine lv_iconst (v := 3) hx hb dM_wholeOne_37 (by decide) ?_
        refine lv_iconst (v := 0) hx hb dM_wholeOne_38 (by decide) ?_
        obtain ⟨c_35, h⟩ := rz_chk h
        obtain ⟨q_39, M_37, h_38, h⟩ := rz_c h
        refine rc_V (rest := []) (As := [.int 3, .int 0]) hx hb (hl.1.trans hml.symm) hown hK hR hRm mfM_emit kl_M_86 hk_M rfl rfl c_35 (by simp [cat_rf, cat_i, cat_a, cat_l, cat_n]) (hC 81 _ _ _ _ h_38) dM_wholeOne_39 (fun v1 H locs cells slots ev hR => ?_) (fun x1 q1 ce1 H locs cells slots ex hR g1 g2 g3 => ?_)
        · rcases h with ⟨v_36, ev2, h⟩ | ⟨e2, ee2, -⟩
          · cases ev.symm.trans ev2
            replace h := rz_v h
            obtain ⟨rfl, h⟩ := h
            dsimp only [Option.toList, List.cons_append, List.nil_append]
            refine lv_goto (tgt := 73) hx hb dM_wholeOne_42 (by decide) ?_
            exact tM_wholeOne_73 F hC hk0 a0 _ _ _ _ _ _ h hR (lv_sub hl [1] rfl)
          · cases ev.symm.trans ee2
        · rcases h with ⟨v2, ev2, -⟩ | ⟨e2, ee2, h⟩
          · cases ex.symm.trans ev2
          · cases ex.symm.trans ee2
            cases h
            exact rt_x hlk hex hR g1 g2 g3
    · cases ev.symm.trans ee2
  · rcases h with ⟨v2, ev2, -⟩ | ⟨e2, ee2, h⟩
    · cases ex.symm.trans ev2
    · cases ex.symm.trans ee2
      cases h
      exact rt_x hlk hex hR g1 g2 g3
def fM_wholeOne_0 (n d : Nat) (C : Cx) : Nat → Nat → Mem → Rz
  | 0, _, _ => none
  | w + 1, a0, M => if mK M a0 = 5 then (rzC (C 85 [.ref a0] M) fun v_2 M_3 => (rzI v_2 fun x_6 => (if x_6 = 3 then (fM_wholeOne_16 n d C (fM_wholeOne_0 n d C w) a0 M_3) else (if mK M_3 a0 = 5 then (rzC (C 85 [.ref a0] M_3) fun v_9 M_10 => (rzI v_9 fun x_13 => (if x_13 = 5 then (fM_wholeOne_16 n d C (fM_wholeOne_0 n d C w) a0 M_10) else (some (.inl (some (.int 1)), M_10))))) else none)))) else none
set_option maxRecDepth 100000 in
set_option maxHeartbeats 4000000 in
theorem tM_wholeOne_0 {n : Nat} (F : FX p s m meth c G R M0 d "HeadCountModel" bM_wholeOne 2 (some .int)) (hC : CBs l G d C) : ∀ (w : Nat) (a0 : Nat) (M : Mem) (H : Heap) (locs : List Loc) (cells slots : Nat) (ls : Array Slot), fM_wholeOne_0 n d C w a0 M = some (r, M') → RL G M0 M H locs cells slots → lv_has ls 2 [(0, .ref a0)] → W p l e R s m args below meth c H locs cells slots (CQ G below s M0 r M') (F0 m 0 ls []) := by
  obtain ⟨hx, hb, hml, hown, hrt, hlk, hex, hK, hRm⟩ := id F
  intro w
  induction w with
  | zero => intro a0 M H locs cells slots ls h; cases h
  | succ w ih =>
    intro a0 M H locs cells slots ls h hR hl
    rw [fM_wholeOne_0] at h
    refine lv_aload_n hx hb dM_wholeOne_0 rfl (lv_at hl 0 rfl) ?_
    obtain ⟨c_1, h⟩ := rz_chk h
    obtain ⟨q_5, M_3, h_4, h⟩ := rz_c h
    refine rc_V (rest := []) (As := []) hx hb (hl.1.trans hml.symm) hown hK hR hRm mfM_upper kl_M_82 hk_M rfl rfl c_1 (by simp [cat_rf, cat_i, cat_a, cat_l, cat_n]) (hC 85 _ _ _ _ h_4) dM_wholeOne_1 (fun v1 H locs cells slots ev hR => ?_) (fun x1 q1 ce1 H locs cells slots ex hR g1 g2 g3 => ?_)
    · rcases h with ⟨v_2, ev2, h⟩ | ⟨e2, ee2, -⟩
      · cases ev.symm.trans ev2
        replace h := rz_i h
        obtain ⟨x_6, rfl, h⟩ := h
        dsimp only [Option.toList, List.cons_append, List.nil_append]
        refine lv_iconst (v := 3) hx hb dM_wholeOne_4 (by decide) ?_
        refine lv_icmp_eq (tgt := 16) hx hb dM_wholeOne_5 (by decide) (fun c_7 => ?_) (fun c_7 => ?_)
        · replace h := rz_t c_7 h
          exact tM_wholeOne_16 F hC ih a0 _ _ _ _ _ _ h hR (lv_sub hl [0] rfl)
        · replace h := rz_f c_7 h
          refine lv_aload_n hx hb dM_wholeOne_8 rfl (lv_at hl 0 rfl) ?_
          obtain ⟨c_8, h⟩ := rz_chk h
          obtain ⟨q_12, M_10, h_11, h⟩ := rz_c h
          refine rc_V (rest := []) (As := []) hx hb (hl.1.trans hml.symm) hown hK hR hRm mfM_upper kl_M_82 hk_M rfl rfl c_8 (by simp [cat_rf, cat_i, cat_a, cat_l, cat_n]) (hC 85 _ _ _ _ h_11) dM_wholeOne_9 (fun v1 H locs cells slots ev hR => ?_) (fun x1 q1 ce1 H locs cells slots ex hR g1 g2 g3 => ?_)
          · rcases h with ⟨v_9, ev2, h⟩ | ⟨e2, ee2, -⟩
            · cases ev.symm.trans ev2
              replace h := rz_i h
              obtain ⟨x_13, rfl, h⟩ := h
              dsimp only [Option.toList, List.cons_append, List.nil_append]
              refine lv_iconst (v := 5) hx hb dM_wholeOne_12 (by decide) ?_
              refine lv_icmp_ne (tgt := 80) hx hb dM_wholeOne_13 (by decide) (fun c_14 => ?_) (fun c_14 => ?_)
              · replace h := rz_f c_14 h
                refine lv_iconst (v := 1) hx hb dM_wholeOne_80 (by decide) ?_
                cases h
                exact rt_i hx hb hlk hrt (Or.inl rfl) rfl hR dM_wholeOne_81
              · replace h := rz_t c_14 h
                exact tM_wholeOne_16 F hC ih a0 _ _ _ _ _ _ h hR (lv_sub hl [0] rfl)
            · cases ev.symm.trans ee2
          · rcases h with ⟨v2, ev2, -⟩ | ⟨e2, ee2, h⟩
            · cases ex.symm.trans ev2
            · cases ex.symm.trans ee2
              cases h
              exact rt_x hlk hex hR g1 g2 g3
      · cases ev.symm.trans ee2
    · rcases h with ⟨v2, ev2, -⟩ | ⟨e2, ee2, h⟩
      · cases ex.symm.trans ev2
      · cases ex.symm.trans ee2
        cases h
        exact rt_x hlk hex hR g1 g2 g3
set_option maxRecDepth 100000 in
set_option maxHeartbeats 4000000 in
theorem sM_wholeOne {l : Launch} {G : Gx} {n d : Nat} {C : Cx} (hC : CBs l G d C) (a0 : Nat) {M M' : Mem} {r : Option Value ⊕ Nat} (h : fM_wholeOne_0 n d C n a0 M = some (r, M')) : CB l G (d + 1) yM_wholeOne [.ref a0] M r M' := by
  intro p e R s m below meth c hx hn hm hc hlk hK hR hcap hS hU hfr hlo hrc hrs
  obtain ⟨hb, hml, hrt, hex, hown⟩ := fx_of hn hm hc (hK.w mfM_wholeOne.2.2.1 rfl #[])
  have F : FX p s m meth c G R M d "HeadCountModel" bM_wholeOne 2 (some .int) := ⟨hx, hb, hml, hown, hrt, hlk, hex, hK, hfr, hlo, by rw [← hcap]; exact hrc, hrs⟩
  rw [hml]
  have hl := lv_entry ([.ref a0]) (n := 2) (by simp [lg_sl, cat_rf, cat_i, cat_a, cat_l, cat_n])
  rw [lg_entry_eq]
  generalize (lg_sl ([.ref a0]) ++ List.replicate (2 - (lg_sl ([.ref a0])).length) Slot.unset).toArray = ls at hl ⊢
  have hl : lv_has ls 2 [(0, .ref a0)] := by simpa [lv_args, cat_rf, cat_i, cat_a, cat_l, cat_n] using hl
  exact tM_wholeOne_0 F hC n a0 _ _ _ _ _ _ h (RL.start hR hcap hS hU) (lv_sub hl [0] rfl)
def fM_bound_43 (n d : Nat) (C : Cx) (a0 : Nat) (x2 : Int32) (xs0 : Int32) (xs1 : Int32) (rs2 : Option Nat) (M : Mem) : Rz := rzD rs2 fun a_1 => (if mK M a_1 = 23 then (if inA xs1 (mL M a_1) then (if fits .boolean (.int xs0) = true then (rzM (setI M a_1 xs1.toNatClampNeg xs0) fun M_6 => (if mK M_6 a0 = 5 then (rzC (C 81 [.ref a0, .int 12, .int (mI M_6 a0 13)] M_6) fun v_10 M_11 => (rzV v_10 (if mK M_11 a0 = 5 then (rzC (C 74 [.ref a0, .int 5] M_11) fun v_15 M_16 => (rzI v_15 fun x_19 => (if mK M_16 a0 = 5 then (rzD (mP M_16 a0 21) fun a_21 => (if mK M_16 a_21 = 21 then (if inA ((mI M_16 a0 19) - 1) (mL M_16 a_21) then (rzM (setI M_16 a_21 ((mI M_16 a0 19) - 1).toNatClampNeg x2) fun M_25 => (rzD (mP M_25 a0 23) fun a_29 => (if mK M_25 a_29 = 21 then (if inA x2 (mL M_25 a_29) then (rzD (mP M_25 a0 22) fun a_33 => (if mK M_25 a_33 = 21 then (if inA ((mI M_25 a0 19) - 1) (mL M_25 a_33) then (rzM (setI M_25 a_33 ((mI M_25 a0 19) - 1).toNatClampNeg (mI M_25 a_29 x2.toNatClampNeg)) fun M_37 => (rzD (mP M_37 a0 23) fun a_43 => (if mK M_37 a_43 = 21 then (if inA x2 (mL M_37 a_43) then (rzM (setI M_37 a_43 x2.toNatClampNeg (mI M_37 a0 13)) fun M_47 => (rzM (setI M_47 a0 13 ((mI M_47 a0 13) + 1)) fun M_54 => (some (.inl (some (.int 0)), M_54)))) else none) else none))) else none) else none)) else none) else none))) else none) else none)) else none))) else none))) else none)) else none) else none) else none)
set_option maxRecDepth 100000 in
set_option maxHeartbeats 4000000 in
theorem tM_bound_43 {n : Nat} (F : FX p s m meth c G R M0 d "HeadCountModel" bM_bound 3 (some .int)) (hC : CBs l G d C) : ∀ (a0 : Nat) (x2 : Int32) (xs0 : Int32) (xs1 : Int32) (rs2 : Option Nat) (M : Mem) (H : Heap) (locs : List Loc) (cells slots : Nat) (ls : Array Slot), fM_bound_43 n d C a0 x2 xs0 xs1 rs2 M = some (r, M') → RL G M0 M H locs cells slots → lv_has ls 3 [(0, .ref a0), (2, .int x2)] → W p l e R s m args below meth c H locs cells slots (CQ G below s M0 r M') (F0 m 43 ls [.int xs0, .int xs1, va_rf rs2]) := by
  obtain ⟨hx, hb, hml, hown, hrt, hlk, hex, hK, hRm⟩ := id F
  intro a0 x2 xs0 xs1 rs2 M H locs cells slots ls h hR hl
  unfold fM_bound_43 at h
  obtain ⟨a_1, e_2, h⟩ := rz_d h
  rw [e_2]
  obtain ⟨c_3, h⟩ := rz_chk h
  obtain ⟨c_4, h⟩ := rz_chk h
  obtain ⟨c_5, h⟩ := rz_chk h
  obtain ⟨M_6, q_7, h⟩ := rz_m h
  refine rg_zast hx hb hK hR c_3 c_4 c_5 dM_bound_43 (fun H locs hR => ?_)
  rw [← q_7] at hR
  have c_8 : mK M_6 a_1 = 23 := by rw [q_7]; exact c_3
  refine lv_aload_n hx hb dM_bound_44 rfl (lv_at hl 0 rfl) ?_
  refine lv_bipush (v := 12) hx hb dM_bound_45 (by decide) ?_
  refine lv_aload_n hx hb dM_bound_47 rfl (lv_at hl 0 rfl) ?_
  obtain ⟨c_9, h⟩ := rz_chk h
  refine rg_getI hx hb hown hK hR hk_M 13 (by decide) kf_M_98 rfl c_9 dM_bound_48 ?_
  obtain ⟨q_13, M_11, h_12, h⟩ := rz_c h
  refine rc_V (rest := []) (As := [.int 12, .int (mI M_6 a0 13)]) hx hb (hl.1.trans hml.symm) hown hK hR hRm mfM_emit kl_M_86 hk_M rfl rfl c_9 (by simp [cat_rf, cat_i, cat_a, cat_l, cat_n]) (hC 81 _ _ _ _ h_12) dM_bound_51 (fun v1 H locs cells slots ev hR => ?_) (fun x1 q1 ce1 H locs cells slots ex hR g1 g2 g3 => ?_)
  · rcases h with ⟨v_10, ev2, h⟩ | ⟨e2, ee2, -⟩
    · cases ev.symm.trans ev2
      replace h := rz_v h
      obtain ⟨rfl, h⟩ := h
      dsimp only [Option.toList, List.cons_append, List.nil_append]
      refine lv_aload_n hx hb dM_bound_54 rfl (lv_at hl 0 rfl) ?_
      refine lv_iconst (v := 5) hx hb dM_bound_55 (by decide) ?_
      obtain ⟨c_14, h⟩ := rz_chk h
      obtain ⟨q_18, M_16, h_17, h⟩ := rz_c h
      refine rc_V (rest := []) (As := [.int 5]) hx hb (hl.1.trans hml.symm) hown hK hR hRm mfM_deeper kl_M_90 hk_M rfl rfl c_14 (by simp [cat_rf, cat_i, cat_a, cat_l, cat_n]) (hC 74 _ _ _ _ h_17) dM_bound_56 (fun v1 H locs cells slots ev hR => ?_) (fun x1 q1 ce1 H locs cells slots ex hR g1 g2 g3 => ?_)
      · rcases h with ⟨v_15, ev2, h⟩ | ⟨e2, ee2, -⟩
        · cases ev.symm.trans ev2
          replace h := rz_i h
          obtain ⟨x_19, rfl, h⟩ := h
          dsimp only [Option.toList, List.cons_append, List.nil_append]
          refine lv_pop hx hb dM_bound_59 rfl ?_
          refine lv_aload_n hx hb dM_bound_60 rfl (lv_at hl 0 rfl) ?_
          obtain ⟨c_20, h⟩ := rz_chk h
          refine rg_getP hx hb hown hK hR hk_M 21 (by decide) kf_M_42 rfl c_20 dM_bound_61 ?_
          refine lv_aload_n hx hb dM_bound_64 rfl (lv_at hl 0 rfl) ?_
          refine rg_getI hx hb hown hK hR hk_M 19 (by decide) kf_M_72 rfl c_20 dM_bound_65 ?_
          refine lv_iconst (v := 1) hx hb dM_bound_68 (by decide) ?_
          refine lv_isub hx hb dM_bound_69 ?_
          refine lv_iload_n hx hb dM_bound_70 rfl (lv_at hl 1 rfl) ?_
          obtain ⟨a_21, e_22, h⟩ := rz_d h
          rw [e_22]
          obtain ⟨c_23, h⟩ := rz_chk h
          obtain ⟨c_24, h⟩ := rz_chk h
          obtain ⟨M_25, q_26, h⟩ := rz_m h
          refine rg_iast hx hb hK hR c_23 c_24 dM_bound_71 (fun H locs hR => ?_)
          rw [← q_26] at hR
          have c_27 : mK M_25 a0 = 5 := by rw [q_26]; exact c_20
          have c_28 : mK M_25 a_21 = 21 := by rw [q_26]; exact c_23
          refine lv_aload_n hx hb dM_bound_72 rfl (lv_at hl 0 rfl) ?_
          refine rg_getP hx hb hown hK hR hk_M 22 (by decide) kf_M_45 rfl c_27 dM_bound_73 ?_
          refine lv_aload_n hx hb dM_bound_76 rfl (lv_at hl 0 rfl) ?_
          refine rg_getI hx hb hown hK hR hk_M 19 (by decide) kf_M_72 rfl c_27 dM_bound_77 ?_
          refine lv_iconst (v := 1) hx hb dM_bound_80 (by decide) ?_
          refine lv_isub hx hb dM_bound_81 ?_
          refine lv_aload_n hx hb dM_bound_82 rfl (lv_at hl 0 rfl) ?_
          refine rg_getP hx hb hown hK hR hk_M 23 (by decide) kf_M_48 rfl c_27 dM_bound_83 ?_
          refine lv_iload_n hx hb dM_bound_86 rfl (lv_at hl 1 rfl) ?_
          obtain ⟨a_29, e_30, h⟩ := rz_d h
          rw [e_30]
          obtain ⟨c_31, h⟩ := rz_chk h
          obtain ⟨c_32, h⟩ := rz_chk h
          refine rg_iald hx hb hK hR c_31 c_32 dM_bound_87 ?_
          obtain ⟨a_33, e_34, h⟩ := rz_d h
          rw [e_34]
          obtain ⟨c_35, h⟩ := rz_chk h
          obtain ⟨c_36, h⟩ := rz_chk h
          obtain ⟨M_37, q_38, h⟩ := rz_m h
          refine rg_iast hx hb hK hR c_35 c_36 dM_bound_88 (fun H locs hR => ?_)
          rw [← q_38] at hR
          have c_39 : mK M_37 a0 = 5 := by rw [q_38]; exact c_27
          have c_40 : mK M_37 a_21 = 21 := by rw [q_38]; exact c_28
          have c_41 : mK M_37 a_29 = 21 := by rw [q_38]; exact c_31
          have c_42 : mK M_37 a_33 = 21 := by rw [q_38]; exact c_35
          refine lv_aload_n hx hb dM_bound_89 rfl (lv_at hl 0 rfl) ?_
          refine rg_getP hx hb hown hK hR hk_M 23 (by decide) kf_M_48 rfl c_39 dM_bound_90 ?_
          refine lv_iload_n hx hb dM_bound_93 rfl (lv_at hl 1 rfl) ?_
          refine lv_aload_n hx hb dM_bound_94 rfl (lv_at hl 0 rfl) ?_
          refine rg_getI hx hb hown hK hR hk_M 13 (by decide) kf_M_98 rfl c_39 dM_bound_95 ?_
          obtain ⟨a_43, e_44, h⟩ := rz_d h
          rw [e_44]
          obtain ⟨c_45, h⟩ := rz_chk h
          obtain ⟨c_46, h⟩ := rz_chk h
          obtain ⟨M_47, q_48, h⟩ := rz_m h
          refine rg_iast hx hb hK hR c_45 c_46 dM_bound_98 (fun H locs hR => ?_)
          rw [← q_48] at hR
          have c_49 : mK M_47 a0 = 5 := by rw [q_48]; exact c_39
          have c_50 : mK M_47 a_21 = 21 := by rw [q_48]; exact c_40
          have c_51 : mK M_47 a_29 = 21 := by rw [q_48]; exact c_41
          have c_52 : mK M_47 a_33 = 21 := by rw [q_48]; exact c_42
          have c_53 : mK M_47 a_43 = 21 := by rw [q_48]; exact c_45
          refine lv_aload_n hx hb dM_bound_99 rfl (lv_at hl 0 rfl) ?_
          refine lv_dup hx hb dM_bound_100 rfl ?_
          refine rg_getI hx hb hown hK hR hk_M 13 (by decide) kf_M_98 rfl c_49 dM_bound_101 ?_
          refine lv_iconst (v := 1) hx hb dM_bound_104 (by decide) ?_
          refine lv_iadd hx hb dM_bound_105 ?_
          obtain ⟨M_54, q_55, h⟩ := rz_m h
          refine rg_putI hx hb hown hK hR hk_M 13 (by decide) kf_M_98 rfl rfl (ty := .int) (by decide +kernel) (Or.inl rfl) rfl c_49 dM_bound_106 (fun H locs hR => ?_)
          rw [← q_55] at hR
          have c_56 : mK M_54 a0 = 5 := by rw [q_55]; exact c_49
          have c_57 : mK M_54 a_21 = 21 := by rw [q_55]; exact c_50
          have c_58 : mK M_54 a_29 = 21 := by rw [q_55]; exact c_51
          have c_59 : mK M_54 a_33 = 21 := by rw [q_55]; exact c_52
          have c_60 : mK M_54 a_43 = 21 := by rw [q_55]; exact c_53
          refine lv_iconst (v := 0) hx hb dM_bound_109 (by decide) ?_
          cases h
          exact rt_i hx hb hlk hrt (Or.inl rfl) rfl hR dM_bound_110
        · cases ev.symm.trans ee2
      · rcases h with ⟨v2, ev2, -⟩ | ⟨e2, ee2, h⟩
        · cases ex.symm.trans ev2
        · cases ex.symm.trans ee2
          cases h
          exact rt_x hlk hex hR g1 g2 g3
    · cases ev.symm.trans ee2
  · rcases h with ⟨v2, ev2, -⟩ | ⟨e2, ee2, h⟩
    · cases ex.symm.trans ev2
    · cases ex.symm.trans ee2
      cases h
      exact rt_x hlk hex hR g1 g2 g3
def fM_bound_0 (n d : Nat) (C : Cx) (a0 : Nat) (x1 : Int32) (M : Mem) : Rz := rzC (C 80 [.int x1] M) fun v_1 M_2 => (rzI v_1 fun x_5 => (if 0 ≤ x_5 then (if mK M_2 a0 = 5 then (rzD (mP M_2 a0 16) fun a_8 => (if mK M_2 a_8 = 23 then (if inA (mI M_2 a0 13) (mL M_2 a_8) then (if fits .boolean (.int (mI M_2 a0 25)) = true then (rzM (setI M_2 a_8 (mI M_2 a0 13).toNatClampNeg (mI M_2 a0 25)) fun M_13 => (if x_5 ≤ 2 then (fM_bound_43 n d C a0 x_5 0 (mI M_13 a0 13) (mP M_13 a0 17) M_13) else (fM_bound_43 n d C a0 x_5 1 (mI M_13 a0 13) (mP M_13 a0 17) M_13))) else none) else none) else none)) else none) else (some (.inl (some (.int 10)), M_2))))
set_option maxRecDepth 100000 in
set_option maxHeartbeats 4000000 in
theorem tM_bound_0 {n : Nat} (F : FX p s m meth c G R M0 d "HeadCountModel" bM_bound 3 (some .int)) (hC : CBs l G d C) : ∀ (a0 : Nat) (x1 : Int32) (M : Mem) (H : Heap) (locs : List Loc) (cells slots : Nat) (ls : Array Slot), fM_bound_0 n d C a0 x1 M = some (r, M') → RL G M0 M H locs cells slots → lv_has ls 3 [(0, .ref a0), (1, .int x1)] → W p l e R s m args below meth c H locs cells slots (CQ G below s M0 r M') (F0 m 0 ls []) := by
  obtain ⟨hx, hb, hml, hown, hrt, hlk, hex, hK, hRm⟩ := id F
  intro a0 x1 M H locs cells slots ls h hR hl
  unfold fM_bound_0 at h
  refine lv_iload_n hx hb dM_bound_0 rfl (lv_at hl 1 rfl) ?_
  obtain ⟨q_4, M_2, h_3, h⟩ := rz_c h
  refine rc_S (rest := []) (As := [.int x1]) hx hb (hl.1.trans hml.symm) hown hK hR hRm mfM_variableOf kl_M_108 rfl (by simp [cat_rf, cat_i, cat_a, cat_l, cat_n]) (hC 80 _ _ _ _ h_3) dM_bound_1 (fun v1 H locs cells slots ev hR => ?_) (fun x1 q1 ce1 H locs cells slots ex hR g1 g2 g3 => ?_)
  · rcases h with ⟨v_1, ev2, h⟩ | ⟨e2, ee2, -⟩
    · cases ev.symm.trans ev2
      replace h := rz_i h
      obtain ⟨x_5, rfl, h⟩ := h
      dsimp only [Option.toList, List.cons_append, List.nil_append]
      refine lv_istore_n (lv' := [(2, .int x_5), (0, .ref a0), (1, .int x1)]) hx hb dM_bound_4 rfl hl (by decide) rfl (fun ls hl => ?_)
      refine lv_iload_n hx hb dM_bound_5 rfl (lv_at hl 0 rfl) ?_
      refine lv_if_ge (tgt := 12) hx hb dM_bound_6 (by decide) (fun c_6 => ?_) (fun c_6 => ?_)
      · replace h := rz_t c_6 h
        refine lv_aload_n hx hb dM_bound_12 rfl (lv_at hl 1 rfl) ?_
        obtain ⟨c_7, h⟩ := rz_chk h
        refine rg_getP hx hb hown hK hR hk_M 16 (by decide) kf_M_33 rfl c_7 dM_bound_13 ?_
        refine lv_aload_n hx hb dM_bound_16 rfl (lv_at hl 1 rfl) ?_
        refine rg_getI hx hb hown hK hR hk_M 13 (by decide) kf_M_98 rfl c_7 dM_bound_17 ?_
        refine lv_aload_n hx hb dM_bound_20 rfl (lv_at hl 1 rfl) ?_
        refine rg_getI hx hb hown hK hR hk_M 25 (by decide) kf_M_94 rfl c_7 dM_bound_21 ?_
        obtain ⟨a_8, e_9, h⟩ := rz_d h
        rw [e_9]
        obtain ⟨c_10, h⟩ := rz_chk h
        obtain ⟨c_11, h⟩ := rz_chk h
        obtain ⟨c_12, h⟩ := rz_chk h
        obtain ⟨M_13, q_14, h⟩ := rz_m h
        refine rg_zast hx hb hK hR c_10 c_11 c_12 dM_bound_24 (fun H locs hR => ?_)
        rw [← q_14] at hR
        have c_15 : mK M_13 a0 = 5 := by rw [q_14]; exact c_7
        have c_16 : mK M_13 a_8 = 23 := by rw [q_14]; exact c_10
        refine lv_aload_n hx hb dM_bound_25 rfl (lv_at hl 1 rfl) ?_
        refine rg_getP hx hb hown hK hR hk_M 17 (by decide) kf_M_36 rfl c_15 dM_bound_26 ?_
        refine lv_aload_n hx hb dM_bound_29 rfl (lv_at hl 1 rfl) ?_
        refine rg_getI hx hb hown hK hR hk_M 13 (by decide) kf_M_98 rfl c_15 dM_bound_30 ?_
        refine lv_iload_n hx hb dM_bound_33 rfl (lv_at hl 0 rfl) ?_
        refine lv_iconst (v := 2) hx hb dM_bound_34 (by decide) ?_
        refine lv_icmp_le (tgt := 42) hx hb dM_bound_35 (by decide) (fun c_17 => ?_) (fun c_17 => ?_)
        · replace h := rz_t c_17 h
          refine lv_iconst (v := 0) hx hb dM_bound_42 (by decide) ?_
          exact tM_bound_43 F hC a0 x_5 0 (mI M_13 a0 13) (mP M_13 a0 17) _ _ _ _ _ _ h hR (lv_sub hl [1, 0] rfl)
        · replace h := rz_f c_17 h
          refine lv_iconst (v := 1) hx hb dM_bound_38 (by decide) ?_
          refine lv_goto (tgt := 43) hx hb dM_bound_39 (by decide) ?_
          exact tM_bound_43 F hC a0 x_5 1 (mI M_13 a0 13) (mP M_13 a0 17) _ _ _ _ _ _ h hR (lv_sub hl [1, 0] rfl)
      · replace h := rz_f c_6 h
        refine lv_bipush (v := 10) hx hb dM_bound_9 (by decide) ?_
        cases h
        exact rt_i hx hb hlk hrt (Or.inl rfl) rfl hR dM_bound_11
    · cases ev.symm.trans ee2
  · rcases h with ⟨v2, ev2, -⟩ | ⟨e2, ee2, h⟩
    · cases ex.symm.trans ev2
    · cases ex.symm.trans ee2
      cases h
      exact rt_x hlk hex hR g1 g2 g3
set_option maxRecDepth 100000 in
set_option maxHeartbeats 4000000 in
theorem sM_bound {l : Launch} {G : Gx} {n d : Nat} {C : Cx} (hC : CBs l G d C) (a0 : Nat) (x1 : Int32) {M M' : Mem} {r : Option Value ⊕ Nat} (h : fM_bound_0 n d C a0 x1 M = some (r, M')) : CB l G (d + 1) yM_bound [.ref a0, .int x1] M r M' := by
  intro p e R s m below meth c hx hn hm hc hlk hK hR hcap hS hU hfr hlo hrc hrs
  obtain ⟨hb, hml, hrt, hex, hown⟩ := fx_of hn hm hc (hK.w mfM_bound.2.2.1 rfl #[])
  have F : FX p s m meth c G R M d "HeadCountModel" bM_bound 3 (some .int) := ⟨hx, hb, hml, hown, hrt, hlk, hex, hK, hfr, hlo, by rw [← hcap]; exact hrc, hrs⟩
  rw [hml]
  have hl := lv_entry ([.ref a0, .int x1]) (n := 3) (by simp [lg_sl, cat_rf, cat_i, cat_a, cat_l, cat_n])
  rw [lg_entry_eq]
  generalize (lg_sl ([.ref a0, .int x1]) ++ List.replicate (3 - (lg_sl ([.ref a0, .int x1])).length) Slot.unset).toArray = ls at hl ⊢
  have hl : lv_has ls 3 [(0, .ref a0), (1, .int x1)] := by simpa [lv_args, cat_rf, cat_i, cat_a, cat_l, cat_n] using hl
  exact tM_bound_0 F hC a0 x1 _ _ _ _ _ _ h (RL.start hR hcap hS hU) (lv_sub hl [0, 1] rfl)
def fM_afterNumber_47 (n d : Nat) (C : Cx) (xs0 : Int32) (M : Mem) : Rz := some (.inl (some (.int xs0)), M)
set_option maxRecDepth 100000 in
set_option maxHeartbeats 4000000 in
theorem tM_afterNumber_47 {n : Nat} (F : FX p s m meth c G R M0 d "HeadCountModel" bM_afterNumber 2 (some .int)) (hC : CBs l G d C) : ∀ (xs0 : Int32) (M : Mem) (H : Heap) (locs : List Loc) (cells slots : Nat) (ls : Array Slot), fM_afterNumber_47 n d C xs0 M = some (r, M') → RL G M0 M H locs cells slots → lv_has ls 2 [] → W p l e R s m args below meth c H locs cells slots (CQ G below s M0 r M') (F0 m 47 ls [.int xs0]) := by
  obtain ⟨hx, hb, hml, hown, hrt, hlk, hex, hK, hRm⟩ := id F
  intro xs0 M H locs cells slots ls h hR hl
  unfold fM_afterNumber_47 at h
  cases h
  exact rt_i hx hb hlk hrt (Or.inl rfl) rfl hR dM_afterNumber_47
def fM_afterNumber_109 (n d : Nat) (C : Cx) (xs0 : Int32) (M : Mem) : Rz := some (.inl (some (.int xs0)), M)
set_option maxRecDepth 100000 in
set_option maxHeartbeats 4000000 in
theorem tM_afterNumber_109 {n : Nat} (F : FX p s m meth c G R M0 d "HeadCountModel" bM_afterNumber 2 (some .int)) (hC : CBs l G d C) : ∀ (xs0 : Int32) (M : Mem) (H : Heap) (locs : List Loc) (cells slots : Nat) (ls : Array Slot), fM_afterNumber_109 n d C xs0 M = some (r, M') → RL G M0 M H locs cells slots → lv_has ls 2 [] → W p l e R s m args below meth c H locs cells slots (CQ G below s M0 r M') (F0 m 109 ls [.int xs0]) := by
  obtain ⟨hx, hb, hml, hown, hrt, hlk, hex, hK, hRm⟩ := id F
  intro xs0 M H locs cells slots ls h hR hl
  unfold fM_afterNumber_109 at h
  cases h
  exact rt_i hx hb hlk hrt (Or.inl rfl) rfl hR dM_afterNumber_109
def fM_afterNumber_110 (n d : Nat) (C : Cx) (a0 : Nat) (x1 : Int32) (M : Mem) : Rz := if mK M a0 = 5 then (rzC (C 81 [.ref a0, .int 13, .int (mI M a0 26)] M) fun v_2 M_3 => (rzV v_2 (if mK M_3 a0 = 5 then (rzC (C 82 [.ref a0] M_3) fun v_7 M_8 => (rzV v_7 (if mK M_8 a0 = 5 then (rzC (C 90 [.ref a0, .int x1] M_8) fun v_12 M_13 => (rzI v_12 fun x_16 => (some (.inl (some (.int x_16)), M_13)))) else none))) else none))) else none
set_option maxRecDepth 100000 in
set_option maxHeartbeats 4000000 in
theorem tM_afterNumber_110 {n : Nat} (F : FX p s m meth c G R M0 d "HeadCountModel" bM_afterNumber 2 (some .int)) (hC : CBs l G d C) : ∀ (a0 : Nat) (x1 : Int32) (M : Mem) (H : Heap) (locs : List Loc) (cells slots : Nat) (ls : Array Slot), fM_afterNumber_110 n d C a0 x1 M = some (r, M') → RL G M0 M H locs cells slots → lv_has ls 2 [(0, .ref a0), (1, .int x1)] → W p l e R s m args below meth c H locs cells slots (CQ G below s M0 r M') (F0 m 110 ls []) := by
  obtain ⟨hx, hb, hml, hown, hrt, hlk, hex, hK, hRm⟩ := id F
  intro a0 x1 M H locs cells slots ls h hR hl
  unfold fM_afterNumber_110 at h
  refine lv_aload_n hx hb dM_afterNumber_110 rfl (lv_at hl 0 rfl) ?_
  refine lv_bipush (v := 13) hx hb dM_afterNumber_111 (by decide) ?_
  refine lv_aload_n hx hb dM_afterNumber_113 rfl (lv_at hl 0 rfl) ?_
  obtain ⟨c_1, h⟩ := rz_chk h
  refine rg_getI hx hb hown hK hR hk_M 26 (by decide) kf_M_139 rfl c_1 dM_afterNumber_114 ?_
  obtain ⟨q_5, M_3, h_4, h⟩ := rz_c h
  refine rc_V (rest := []) (As := [.int 13, .int (mI M a0 26)]) hx hb (hl.1.trans hml.symm) hown hK hR hRm mfM_emit kl_M_86 hk_M rfl rfl c_1 (by simp [cat_rf, cat_i, cat_a, cat_l, cat_n]) (hC 81 _ _ _ _ h_4) dM_afterNumber_117 (fun v1 H locs cells slots ev hR => ?_) (fun x1 q1 ce1 H locs cells slots ex hR g1 g2 g3 => ?_)
  · rcases h with ⟨v_2, ev2, h⟩ | ⟨e2, ee2, -⟩
    · cases ev.symm.trans ev2
      replace h := rz_v h
      obtain ⟨rfl, h⟩ := h
      dsimp only [Option.toList, List.cons_append, List.nil_append]
      refine lv_aload_n hx hb dM_afterNumber_120 rfl (lv_at hl 0 rfl) ?_
      obtain ⟨c_6, h⟩ := rz_chk h
      obtain ⟨q_10, M_8, h_9, h⟩ := rz_c h
      refine rc_V (rest := []) (As := []) hx hb (hl.1.trans hml.symm) hown hK hR hRm mfM_wholePart kl_M_154 hk_M rfl rfl c_6 (by simp [cat_rf, cat_i, cat_a, cat_l, cat_n]) (hC 82 _ _ _ _ h_9) dM_afterNumber_121 (fun v1 H locs cells slots ev hR => ?_) (fun x1 q1 ce1 H locs cells slots ex hR g1 g2 g3 => ?_)
      · rcases h with ⟨v_7, ev2, h⟩ | ⟨e2, ee2, -⟩
        · cases ev.symm.trans ev2
          replace h := rz_v h
          obtain ⟨rfl, h⟩ := h
          dsimp only [Option.toList, List.cons_append, List.nil_append]
          refine lv_aload_n hx hb dM_afterNumber_124 rfl (lv_at hl 0 rfl) ?_
          refine lv_iload_n hx hb dM_afterNumber_125 rfl (lv_at hl 1 rfl) ?_
          obtain ⟨c_11, h⟩ := rz_chk h
          obtain ⟨q_15, M_13, h_14, h⟩ := rz_c h
          refine rc_V (rest := []) (As := [.int x1]) hx hb (hl.1.trans hml.symm) hown hK hR hRm mfM_afterPart kl_M_157 hk_M rfl rfl c_11 (by simp [cat_rf, cat_i, cat_a, cat_l, cat_n]) (hC 90 _ _ _ _ h_14) dM_afterNumber_126 (fun v1 H locs cells slots ev hR => ?_) (fun x1 q1 ce1 H locs cells slots ex hR g1 g2 g3 => ?_)
          · rcases h with ⟨v_12, ev2, h⟩ | ⟨e2, ee2, -⟩
            · cases ev.symm.trans ev2
              replace h := rz_i h
              obtain ⟨x_16, rfl, h⟩ := h
              dsimp only [Option.toList, List.cons_append, List.nil_append]
              cases h
              exact rt_i hx hb hlk hrt (Or.inl rfl) rfl hR dM_afterNumber_129
            · cases ev.symm.trans ee2
          · rcases h with ⟨v2, ev2, -⟩ | ⟨e2, ee2, h⟩
            · cases ex.symm.trans ev2
            · cases ex.symm.trans ee2
              cases h
              exact rt_x hlk hex hR g1 g2 g3
        · cases ev.symm.trans ee2
      · rcases h with ⟨v2, ev2, -⟩ | ⟨e2, ee2, h⟩
        · cases ex.symm.trans ev2
        · cases ex.symm.trans ee2
          cases h
          exact rt_x hlk hex hR g1 g2 g3
    · cases ev.symm.trans ee2
  · rcases h with ⟨v2, ev2, -⟩ | ⟨e2, ee2, h⟩
    · cases ex.symm.trans ev2
    · cases ex.symm.trans ee2
      cases h
      exact rt_x hlk hex hR g1 g2 g3
def fM_afterNumber_0 (n d : Nat) (C : Cx) (a0 : Nat) (x1 : Int32) (M : Mem) : Rz := rzC (C 78 [.int x1] M) fun v_1 M_2 => (rzI v_1 fun x_5 => (if x_5 = 0 then (if x1 = 42 then (if mK M_2 a0 = 5 then (if fits .boolean (.int 1) = true then (rzM (setI M_2 a0 28 1) fun M_20 => (rzM (setI M_20 a0 29 (mI M_20 a0 26)) fun M_23 => (some (.inl (some (.int 6)), M_23)))) else none) else none) else (if x1 = 58 then (if mK M_2 a0 = 5 then (if (mI M_2 a0 32) = 0 then (fM_afterNumber_110 n d C a0 x1 M_2) else (rzM (setI M_2 a0 33 3) fun M_11 => (rzM (setI M_11 a0 34 (mI M_11 a0 26)) fun M_14 => (if (mI M_14 a0 26) ≤ 0 then (fM_afterNumber_109 n d C 10 M_14) else (fM_afterNumber_109 n d C 3 M_14))))) else none) else (fM_afterNumber_110 n d C a0 x1 M_2))) else (if mK M_2 a0 = 5 then (rzM (setI M_2 a0 26 (((10 * (mI M_2 a0 26)) + x1) - 48)) fun M_27 => (rzM (setI M_27 a0 27 ((mI M_27 a0 27) + 1)) fun M_30 => (if 4 ≤ (mI M_30 a0 27) then (fM_afterNumber_47 n d C 10 M_30) else (fM_afterNumber_47 n d C 5 M_30)))) else none)))
set_option maxRecDepth 100000 in
set_option maxHeartbeats 4000000 in
theorem tM_afterNumber_0 {n : Nat} (F : FX p s m meth c G R M0 d "HeadCountModel" bM_afterNumber 2 (some .int)) (hC : CBs l G d C) : ∀ (a0 : Nat) (x1 : Int32) (M : Mem) (H : Heap) (locs : List Loc) (cells slots : Nat) (ls : Array Slot), fM_afterNumber_0 n d C a0 x1 M = some (r, M') → RL G M0 M H locs cells slots → lv_has ls 2 [(0, .ref a0), (1, .int x1)] → W p l e R s m args below meth c H locs cells slots (CQ G below s M0 r M') (F0 m 0 ls []) := by
  obtain ⟨hx, hb, hml, hown, hrt, hlk, hex, hK, hRm⟩ := id F
  intro a0 x1 M H locs cells slots ls h hR hl
  unfold fM_afterNumber_0 at h
  refine lv_iload_n hx hb dM_afterNumber_0 rfl (lv_at hl 1 rfl) ?_
  obtain ⟨q_4, M_2, h_3, h⟩ := rz_c h
  refine rc_S (rest := []) (As := [.int x1]) hx hb (hl.1.trans hml.symm) hown hK hR hRm mfM_isDigit kl_M_135 rfl (by simp [cat_rf, cat_i, cat_a, cat_l, cat_n]) (hC 78 _ _ _ _ h_3) dM_afterNumber_1 (fun v1 H locs cells slots ev hR => ?_) (fun x1 q1 ce1 H locs cells slots ex hR g1 g2 g3 => ?_)
  · rcases h with ⟨v_1, ev2, h⟩ | ⟨e2, ee2, -⟩
    · cases ev.symm.trans ev2
      replace h := rz_i h
      obtain ⟨x_5, rfl, h⟩ := h
      dsimp only [Option.toList, List.cons_append, List.nil_append]
      refine lv_if_eq (tgt := 48) hx hb dM_afterNumber_4 (by decide) (fun c_6 => ?_) (fun c_6 => ?_)
      · replace h := rz_t c_6 h
        refine lv_iload_n hx hb dM_afterNumber_48 rfl (lv_at hl 1 rfl) ?_
        refine lv_bipush (v := 42) hx hb dM_afterNumber_49 (by decide) ?_
        refine lv_icmp_ne (tgt := 70) hx hb dM_afterNumber_51 (by decide) (fun c_7 => ?_) (fun c_7 => ?_)
        · replace h := rz_f c_7 h
          refine lv_iload_n hx hb dM_afterNumber_70 rfl (lv_at hl 1 rfl) ?_
          refine lv_bipush (v := 58) hx hb dM_afterNumber_71 (by decide) ?_
          refine lv_icmp_ne (tgt := 110) hx hb dM_afterNumber_73 (by decide) (fun c_8 => ?_) (fun c_8 => ?_)
          · replace h := rz_f c_8 h
            exact tM_afterNumber_110 F hC a0 x1 _ _ _ _ _ _ h hR (lv_sub hl [0, 1] rfl)
          · replace h := rz_t c_8 h
            refine lv_aload_n hx hb dM_afterNumber_76 rfl (lv_at hl 0 rfl) ?_
            obtain ⟨c_9, h⟩ := rz_chk h
            refine rg_getI hx hb hown hK hR hk_M 32 (by decide) kf_M_126 rfl c_9 dM_afterNumber_77 ?_
            refine lv_if_eq (tgt := 110) hx hb dM_afterNumber_80 (by decide) (fun c_10 => ?_) (fun c_10 => ?_)
            · replace h := rz_t c_10 h
              exact tM_afterNumber_110 F hC a0 x1 _ _ _ _ _ _ h hR (lv_sub hl [0, 1] rfl)
            · replace h := rz_f c_10 h
              refine lv_aload_n hx hb dM_afterNumber_83 rfl (lv_at hl 0 rfl) ?_
              refine lv_iconst (v := 3) hx hb dM_afterNumber_84 (by decide) ?_
              obtain ⟨M_11, q_12, h⟩ := rz_m h
              refine rg_putI hx hb hown hK hR hk_M 33 (by decide) kf_M_101 rfl rfl (ty := .int) (by decide +kernel) (Or.inl rfl) rfl c_9 dM_afterNumber_85 (fun H locs hR => ?_)
              rw [← q_12] at hR
              have c_13 : mK M_11 a0 = 5 := by rw [q_12]; exact c_9
              refine lv_aload_n hx hb dM_afterNumber_88 rfl (lv_at hl 0 rfl) ?_
              refine lv_aload_n hx hb dM_afterNumber_89 rfl (lv_at hl 0 rfl) ?_
              refine rg_getI hx hb hown hK hR hk_M 26 (by decide) kf_M_139 rfl c_13 dM_afterNumber_90 ?_
              obtain ⟨M_14, q_15, h⟩ := rz_m h
              refine rg_putI hx hb hown hK hR hk_M 34 (by decide) kf_M_151 rfl rfl (ty := .int) (by decide +kernel) (Or.inl rfl) rfl c_13 dM_afterNumber_93 (fun H locs hR => ?_)
              rw [← q_15] at hR
              have c_16 : mK M_14 a0 = 5 := by rw [q_15]; exact c_13
              refine lv_aload_n hx hb dM_afterNumber_96 rfl (lv_at hl 0 rfl) ?_
              refine rg_getI hx hb hown hK hR hk_M 26 (by decide) kf_M_139 rfl c_16 dM_afterNumber_97 ?_
              refine lv_if_le (tgt := 107) hx hb dM_afterNumber_100 (by decide) (fun c_17 => ?_) (fun c_17 => ?_)
              · replace h := rz_t c_17 h
                refine lv_bipush (v := 10) hx hb dM_afterNumber_107 (by decide) ?_
                exact tM_afterNumber_109 F hC 10 _ _ _ _ _ _ h hR (lv_sub hl [] rfl)
              · replace h := rz_f c_17 h
                refine lv_iconst (v := 3) hx hb dM_afterNumber_103 (by decide) ?_
                refine lv_goto (tgt := 109) hx hb dM_afterNumber_104 (by decide) ?_
                exact tM_afterNumber_109 F hC 3 _ _ _ _ _ _ h hR (lv_sub hl [] rfl)
        · replace h := rz_t c_7 h
          refine lv_aload_n hx hb dM_afterNumber_54 rfl (lv_at hl 0 rfl) ?_
          refine lv_iconst (v := 1) hx hb dM_afterNumber_55 (by decide) ?_
          obtain ⟨c_18, h⟩ := rz_chk h
          obtain ⟨c_19, h⟩ := rz_chk h
          obtain ⟨M_20, q_21, h⟩ := rz_m h
          refine rg_putI hx hb hown hK hR hk_M 28 (by decide) kf_M_132 rfl rfl (ty := .boolean) (by decide +kernel) (Or.inr (Or.inr rfl)) c_19 c_18 dM_afterNumber_56 (fun H locs hR => ?_)
          rw [← q_21] at hR
          have c_22 : mK M_20 a0 = 5 := by rw [q_21]; exact c_18
          refine lv_aload_n hx hb dM_afterNumber_59 rfl (lv_at hl 0 rfl) ?_
          refine lv_aload_n hx hb dM_afterNumber_60 rfl (lv_at hl 0 rfl) ?_
          refine rg_getI hx hb hown hK hR hk_M 26 (by decide) kf_M_139 rfl c_22 dM_afterNumber_61 ?_
          obtain ⟨M_23, q_24, h⟩ := rz_m h
          refine rg_putI hx hb hown hK hR hk_M 29 (by decide) kf_M_148 rfl rfl (ty := .int) (by decide +kernel) (Or.inl rfl) rfl c_22 dM_afterNumber_64 (fun H locs hR => ?_)
          rw [← q_24] at hR
          have c_25 : mK M_23 a0 = 5 := by rw [q_24]; exact c_22
          refine lv_bipush (v := 6) hx hb dM_afterNumber_67 (by decide) ?_
          cases h
          exact rt_i hx hb hlk hrt (Or.inl rfl) rfl hR dM_afterNumber_69
      · replace h := rz_f c_6 h
        refine lv_aload_n hx hb dM_afterNumber_7 rfl (lv_at hl 0 rfl) ?_
        refine lv_bipush (v := 10) hx hb dM_afterNumber_8 (by decide) ?_
        refine lv_aload_n hx hb dM_afterNumber_10 rfl (lv_at hl 0 rfl) ?_
        obtain ⟨c_26, h⟩ := rz_chk h
        refine rg_getI hx hb hown hK hR hk_M 26 (by decide) kf_M_139 rfl c_26 dM_afterNumber_11 ?_
        refine lv_imul hx hb dM_afterNumber_14 ?_
        refine lv_iload_n hx hb dM_afterNumber_15 rfl (lv_at hl 1 rfl) ?_
        refine lv_iadd hx hb dM_afterNumber_16 ?_
        refine lv_bipush (v := 48) hx hb dM_afterNumber_17 (by decide) ?_
        refine lv_isub hx hb dM_afterNumber_19 ?_
        obtain ⟨M_27, q_28, h⟩ := rz_m h
        refine rg_putI hx hb hown hK hR hk_M 26 (by decide) kf_M_139 rfl rfl (ty := .int) (by decide +kernel) (Or.inl rfl) rfl c_26 dM_afterNumber_20 (fun H locs hR => ?_)
        rw [← q_28] at hR
        have c_29 : mK M_27 a0 = 5 := by rw [q_28]; exact c_26
        refine lv_aload_n hx hb dM_afterNumber_23 rfl (lv_at hl 0 rfl) ?_
        refine lv_dup hx hb dM_afterNumber_24 rfl ?_
        refine rg_getI hx hb hown hK hR hk_M 27 (by decide) kf_M_142 rfl c_29 dM_afterNumber_25 ?_
        refine lv_iconst (v := 1) hx hb dM_afterNumber_28 (by decide) ?_
        refine lv_iadd hx hb dM_afterNumber_29 ?_
        obtain ⟨M_30, q_31, h⟩ := rz_m h
        refine rg_putI hx hb hown hK hR hk_M 27 (by decide) kf_M_142 rfl rfl (ty := .int) (by decide +kernel) (Or.inl rfl) rfl c_29 dM_afterNumber_30 (fun H locs hR => ?_)
        rw [← q_31] at hR
        have c_32 : mK M_30 a0 = 5 := by rw [q_31]; exact c_29
        refine lv_aload_n hx hb dM_afterNumber_33 rfl (lv_at hl 0 rfl) ?_
        refine rg_getI hx hb hown hK hR hk_M 27 (by decide) kf_M_142 rfl c_32 dM_afterNumber_34 ?_
        refine lv_iconst (v := 4) hx hb dM_afterNumber_37 (by decide) ?_
        refine lv_icmp_ge (tgt := 45) hx hb dM_afterNumber_38 (by decide) (fun c_33 => ?_) (fun c_33 => ?_)
        · replace h := rz_t c_33 h
          refine lv_bipush (v := 10) hx hb dM_afterNumber_45 (by decide) ?_
          exact tM_afterNumber_47 F hC 10 _ _ _ _ _ _ h hR (lv_sub hl [] rfl)
        · replace h := rz_f c_33 h
          refine lv_iconst (v := 5) hx hb dM_afterNumber_41 (by decide) ?_
          refine lv_goto (tgt := 47) hx hb dM_afterNumber_42 (by decide) ?_
          exact tM_afterNumber_47 F hC 5 _ _ _ _ _ _ h hR (lv_sub hl [] rfl)
    · cases ev.symm.trans ee2
  · rcases h with ⟨v2, ev2, -⟩ | ⟨e2, ee2, h⟩
    · cases ex.symm.trans ev2
    · cases ex.symm.trans ee2
      cases h
      exact rt_x hlk hex hR g1 g2 g3
set_option maxRecDepth 100000 in
set_option maxHeartbeats 4000000 in
theorem sM_afterNumber {l : Launch} {G : Gx} {n d : Nat} {C : Cx} (hC : CBs l G d C) (a0 : Nat) (x1 : Int32) {M M' : Mem} {r : Option Value ⊕ Nat} (h : fM_afterNumber_0 n d C a0 x1 M = some (r, M')) : CB l G (d + 1) yM_afterNumber [.ref a0, .int x1] M r M' := by
  intro p e R s m below meth c hx hn hm hc hlk hK hR hcap hS hU hfr hlo hrc hrs
  obtain ⟨hb, hml, hrt, hex, hown⟩ := fx_of hn hm hc (hK.w mfM_afterNumber.2.2.1 rfl #[])
  have F : FX p s m meth c G R M d "HeadCountModel" bM_afterNumber 2 (some .int) := ⟨hx, hb, hml, hown, hrt, hlk, hex, hK, hfr, hlo, by rw [← hcap]; exact hrc, hrs⟩
  rw [hml]
  have hl := lv_entry ([.ref a0, .int x1]) (n := 2) (by simp [lg_sl, cat_rf, cat_i, cat_a, cat_l, cat_n])
  rw [lg_entry_eq]
  generalize (lg_sl ([.ref a0, .int x1]) ++ List.replicate (2 - (lg_sl ([.ref a0, .int x1])).length) Slot.unset).toArray = ls at hl ⊢
  have hl : lv_has ls 2 [(0, .ref a0), (1, .int x1)] := by simpa [lv_args, cat_rf, cat_i, cat_a, cat_l, cat_n] using hl
  exact tM_afterNumber_0 F hC a0 x1 _ _ _ _ _ _ h (RL.start hR hcap hS hU) (lv_sub hl [0, 1] rfl)
def fM_afterPart_24 (n d : Nat) (C : Cx) (xs0 : Int32) (as1 : Nat) (M : Mem) : Rz := if mK M as1 = 5 then (if fits .boolean (.int xs0) = true then (rzM (setI M as1 30 xs0) fun M_3 => (some (.inl (some (.int 4)), M_3))) else none) else none
set_option maxRecDepth 100000 in
set_option maxHeartbeats 4000000 in
theorem tM_afterPart_24 {n : Nat} (F : FX p s m meth c G R M0 d "HeadCountModel" bM_afterPart 2 (some .int)) (hC : CBs l G d C) : ∀ (xs0 : Int32) (as1 : Nat) (M : Mem) (H : Heap) (locs : List Loc) (cells slots : Nat) (ls : Array Slot), fM_afterPart_24 n d C xs0 as1 M = some (r, M') → RL G M0 M H locs cells slots → lv_has ls 2 [] → W p l e R s m args below meth c H locs cells slots (CQ G below s M0 r M') (F0 m 24 ls [.int xs0, .ref as1]) := by
  obtain ⟨hx, hb, hml, hown, hrt, hlk, hex, hK, hRm⟩ := id F
  intro xs0 as1 M H locs cells slots ls h hR hl
  unfold fM_afterPart_24 at h
  obtain ⟨c_1, h⟩ := rz_chk h
  obtain ⟨c_2, h⟩ := rz_chk h
  obtain ⟨M_3, q_4, h⟩ := rz_m h
  refine rg_putI hx hb hown hK hR hk_M 30 (by decide) kf_M_120 rfl rfl (ty := .boolean) (by decide +kernel) (Or.inr (Or.inr rfl)) c_2 c_1 dM_afterPart_24 (fun H locs hR => ?_)
  rw [← q_4] at hR
  have c_5 : mK M_3 as1 = 5 := by rw [q_4]; exact c_1
  refine lv_iconst (v := 4) hx hb dM_afterPart_27 (by decide) ?_
  cases h
  exact rt_i hx hb hlk hrt (Or.inl rfl) rfl hR dM_afterPart_28
def fM_afterPart_12 (n d : Nat) (C : Cx) (a0 : Nat) (x1 : Int32) (M : Mem) : Rz := if x1 = 45 then (fM_afterPart_24 n d C 1 a0 M) else (fM_afterPart_24 n d C 0 a0 M)
set_option maxRecDepth 100000 in
set_option maxHeartbeats 4000000 in
theorem tM_afterPart_12 {n : Nat} (F : FX p s m meth c G R M0 d "HeadCountModel" bM_afterPart 2 (some .int)) (hC : CBs l G d C) : ∀ (a0 : Nat) (x1 : Int32) (M : Mem) (H : Heap) (locs : List Loc) (cells slots : Nat) (ls : Array Slot), fM_afterPart_12 n d C a0 x1 M = some (r, M') → RL G M0 M H locs cells slots → lv_has ls 2 [(0, .ref a0), (1, .int x1)] → W p l e R s m args below meth c H locs cells slots (CQ G below s M0 r M') (F0 m 12 ls []) := by
  obtain ⟨hx, hb, hml, hown, hrt, hlk, hex, hK, hRm⟩ := id F
  intro a0 x1 M H locs cells slots ls h hR hl
  unfold fM_afterPart_12 at h
  refine lv_aload_n hx hb dM_afterPart_12 rfl (lv_at hl 0 rfl) ?_
  refine lv_iload_n hx hb dM_afterPart_13 rfl (lv_at hl 1 rfl) ?_
  refine lv_bipush (v := 45) hx hb dM_afterPart_14 (by decide) ?_
  refine lv_icmp_ne (tgt := 23) hx hb dM_afterPart_16 (by decide) (fun c_1 => ?_) (fun c_1 => ?_)
  · replace h := rz_f c_1 h
    refine lv_iconst (v := 0) hx hb dM_afterPart_23 (by decide) ?_
    exact tM_afterPart_24 F hC 0 a0 _ _ _ _ _ _ h hR (lv_sub hl [] rfl)
  · replace h := rz_t c_1 h
    refine lv_iconst (v := 1) hx hb dM_afterPart_19 (by decide) ?_
    refine lv_goto (tgt := 24) hx hb dM_afterPart_20 (by decide) ?_
    exact tM_afterPart_24 F hC 1 a0 _ _ _ _ _ _ h hR (lv_sub hl [] rfl)
def fM_afterPart_74 (n d : Nat) (C : Cx) (xs0 : Int32) (M : Mem) : Rz := some (.inl (some (.int xs0)), M)
set_option maxRecDepth 100000 in
set_option maxHeartbeats 4000000 in
theorem tM_afterPart_74 {n : Nat} (F : FX p s m meth c G R M0 d "HeadCountModel" bM_afterPart 2 (some .int)) (hC : CBs l G d C) : ∀ (xs0 : Int32) (M : Mem) (H : Heap) (locs : List Loc) (cells slots : Nat) (ls : Array Slot), fM_afterPart_74 n d C xs0 M = some (r, M') → RL G M0 M H locs cells slots → lv_has ls 2 [] → W p l e R s m args below meth c H locs cells slots (CQ G below s M0 r M') (F0 m 74 ls [.int xs0]) := by
  obtain ⟨hx, hb, hml, hown, hrt, hlk, hex, hK, hRm⟩ := id F
  intro xs0 M H locs cells slots ls h hR hl
  unfold fM_afterPart_74 at h
  cases h
  exact rt_i hx hb hlk hrt (Or.inl rfl) rfl hR dM_afterPart_74
def fM_afterPart_58 (n d : Nat) (C : Cx) (a0 : Nat) (xs0 : Int32) (as1 : Nat) (M : Mem) : Rz := if mK M as1 = 5 then (rzM (setI M as1 33 xs0) fun M_2 => (if mK M_2 a0 = 5 then (if (mI M_2 a0 33) ≤ 0 then (fM_afterPart_74 n d C 10 M_2) else (fM_afterPart_74 n d C 3 M_2)) else none)) else none
set_option maxRecDepth 100000 in
set_option maxHeartbeats 4000000 in
theorem tM_afterPart_58 {n : Nat} (F : FX p s m meth c G R M0 d "HeadCountModel" bM_afterPart 2 (some .int)) (hC : CBs l G d C) : ∀ (a0 : Nat) (xs0 : Int32) (as1 : Nat) (M : Mem) (H : Heap) (locs : List Loc) (cells slots : Nat) (ls : Array Slot), fM_afterPart_58 n d C a0 xs0 as1 M = some (r, M') → RL G M0 M H locs cells slots → lv_has ls 2 [(0, .ref a0)] → W p l e R s m args below meth c H locs cells slots (CQ G below s M0 r M') (F0 m 58 ls [.int xs0, .ref as1]) := by
  obtain ⟨hx, hb, hml, hown, hrt, hlk, hex, hK, hRm⟩ := id F
  intro a0 xs0 as1 M H locs cells slots ls h hR hl
  unfold fM_afterPart_58 at h
  obtain ⟨c_1, h⟩ := rz_chk h
  obtain ⟨M_2, q_3, h⟩ := rz_m h
  refine rg_putI hx hb hown hK hR hk_M 33 (by decide) kf_M_101 rfl rfl (ty := .int) (by decide +kernel) (Or.inl rfl) rfl c_1 dM_afterPart_58 (fun H locs hR => ?_)
  rw [← q_3] at hR
  have c_4 : mK M_2 as1 = 5 := by rw [q_3]; exact c_1
  refine lv_aload_n hx hb dM_afterPart_61 rfl (lv_at hl 0 rfl) ?_
  obtain ⟨c_5, h⟩ := rz_chk h
  refine rg_getI hx hb hown hK hR hk_M 33 (by decide) kf_M_101 rfl c_5 dM_afterPart_62 ?_
  refine lv_if_le (tgt := 72) hx hb dM_afterPart_65 (by decide) (fun c_6 => ?_) (fun c_6 => ?_)
  · replace h := rz_t c_6 h
    refine lv_bipush (v := 10) hx hb dM_afterPart_72 (by decide) ?_
    exact tM_afterPart_74 F hC 10 _ _ _ _ _ _ h hR (lv_sub hl [] rfl)
  · replace h := rz_f c_6 h
    refine lv_iconst (v := 3) hx hb dM_afterPart_68 (by decide) ?_
    refine lv_goto (tgt := 74) hx hb dM_afterPart_69 (by decide) ?_
    exact tM_afterPart_74 F hC 3 _ _ _ _ _ _ h hR (lv_sub hl [] rfl)
def fM_afterPart_104 (n d : Nat) (C : Cx) (a0 : Nat) (x1 : Int32) (xs0 : Int32) (as1 : Nat) (M : Mem) : Rz := if mK M a0 = 5 then (if mK M as1 = 5 then (rzC (C 81 [.ref as1, .int xs0, .int (mI M a0 34)] M) fun v_3 M_4 => (rzV v_3 (if mK M_4 a0 = 5 then (rzC (C 87 [.ref a0] M_4) fun v_8 M_9 => (rzI v_8 fun x_12 => (if mK M_9 a0 = 5 then (rzC (C 83 [.ref a0, .int x1] M_9) fun v_14 M_15 => (rzI v_14 fun x_18 => (some (.inl (some (.int x_18)), M_15)))) else none))) else none))) else none) else none
set_option maxRecDepth 100000 in
set_option maxHeartbeats 4000000 in
theorem tM_afterPart_104 {n : Nat} (F : FX p s m meth c G R M0 d "HeadCountModel" bM_afterPart 2 (some .int)) (hC : CBs l G d C) : ∀ (a0 : Nat) (x1 : Int32) (xs0 : Int32) (as1 : Nat) (M : Mem) (H : Heap) (locs : List Loc) (cells slots : Nat) (ls : Array Slot), fM_afterPart_104 n d C a0 x1 xs0 as1 M = some (r, M') → RL G M0 M H locs cells slots → lv_has ls 2 [(0, .ref a0), (1, .int x1)] → W p l e R s m args below meth c H locs cells slots (CQ G below s M0 r M') (F0 m 104 ls [.int xs0, .ref as1]) := by
  obtain ⟨hx, hb, hml, hown, hrt, hlk, hex, hK, hRm⟩ := id F
  intro a0 x1 xs0 as1 M H locs cells slots ls h hR hl
  unfold fM_afterPart_104 at h
  refine lv_aload_n hx hb dM_afterPart_104 rfl (lv_at hl 0 rfl) ?_
  obtain ⟨c_1, h⟩ := rz_chk h
  refine rg_getI hx hb hown hK hR hk_M 34 (by decide) kf_M_151 rfl c_1 dM_afterPart_105 ?_
  obtain ⟨c_2, h⟩ := rz_chk h
  obtain ⟨q_6, M_4, h_5, h⟩ := rz_c h
  refine rc_V (rest := []) (As := [.int xs0, .int (mI M a0 34)]) hx hb (hl.1.trans hml.symm) hown hK hR hRm mfM_emit kl_M_86 hk_M rfl rfl c_2 (by simp [cat_rf, cat_i, cat_a, cat_l, cat_n]) (hC 81 _ _ _ _ h_5) dM_afterPart_108 (fun v1 H locs cells slots ev hR => ?_) (fun x1 q1 ce1 H locs cells slots ex hR g1 g2 g3 => ?_)
  · rcases h with ⟨v_3, ev2, h⟩ | ⟨e2, ee2, -⟩
    · cases ev.symm.trans ev2
      replace h := rz_v h
      obtain ⟨rfl, h⟩ := h
      dsimp only [Option.toList, List.cons_append, List.nil_append]
      refine lv_aload_n hx hb dM_afterPart_111 rfl (lv_at hl 0 rfl) ?_
      obtain ⟨c_7, h⟩ := rz_chk h
      obtain ⟨q_11, M_9, h_10, h⟩ := rz_c h
      refine rc_V (rest := []) (As := []) hx hb (hl.1.trans hml.symm) hown hK hR hRm mfM_wholeOne kl_M_117 hk_M rfl rfl c_7 (by simp [cat_rf, cat_i, cat_a, cat_l, cat_n]) (hC 87 _ _ _ _ h_10) dM_afterPart_112 (fun v1 H locs cells slots ev hR => ?_) (fun x1 q1 ce1 H locs cells slots ex hR g1 g2 g3 => ?_)
      · rcases h with ⟨v_8, ev2, h⟩ | ⟨e2, ee2, -⟩
        · cases ev.symm.trans ev2
          replace h := rz_i h
          obtain ⟨x_12, rfl, h⟩ := h
          dsimp only [Option.toList, List.cons_append, List.nil_append]
          refine lv_pop hx hb dM_afterPart_115 rfl ?_
          refine lv_aload_n hx hb dM_afterPart_116 rfl (lv_at hl 0 rfl) ?_
          refine lv_iload_n hx hb dM_afterPart_117 rfl (lv_at hl 1 rfl) ?_
          obtain ⟨c_13, h⟩ := rz_chk h
          obtain ⟨q_17, M_15, h_16, h⟩ := rz_c h
          refine rc_V (rest := []) (As := [.int x1]) hx hb (hl.1.trans hml.symm) hown hK hR hRm mfM_afterOne kl_M_160 hk_M rfl rfl c_13 (by simp [cat_rf, cat_i, cat_a, cat_l, cat_n]) (hC 83 _ _ _ _ h_16) dM_afterPart_118 (fun v1 H locs cells slots ev hR => ?_) (fun x1 q1 ce1 H locs cells slots ex hR g1 g2 g3 => ?_)
          · rcases h with ⟨v_14, ev2, h⟩ | ⟨e2, ee2, -⟩
            · cases ev.symm.trans ev2
              replace h := rz_i h
              obtain ⟨x_18, rfl, h⟩ := h
              dsimp only [Option.toList, List.cons_append, List.nil_append]
              cases h
              exact rt_i hx hb hlk hrt (Or.inl rfl) rfl hR dM_afterPart_121
            · cases ev.symm.trans ee2
          · rcases h with ⟨v2, ev2, -⟩ | ⟨e2, ee2, h⟩
            · cases ex.symm.trans ev2
            · cases ex.symm.trans ee2
              cases h
              exact rt_x hlk hex hR g1 g2 g3
        · cases ev.symm.trans ee2
      · rcases h with ⟨v2, ev2, -⟩ | ⟨e2, ee2, h⟩
        · cases ex.symm.trans ev2
        · cases ex.symm.trans ee2
          cases h
          exact rt_x hlk hex hR g1 g2 g3
    · cases ev.symm.trans ee2
  · rcases h with ⟨v2, ev2, -⟩ | ⟨e2, ee2, h⟩
    · cases ex.symm.trans ev2
    · cases ex.symm.trans ee2
      cases h
      exact rt_x hlk hex hR g1 g2 g3
def fM_afterPart_0 (n d : Nat) (C : Cx) (a0 : Nat) (x1 : Int32) (M : Mem) : Rz := if x1 = 43 then (fM_afterPart_12 n d C a0 x1 M) else (if x1 = 45 then (fM_afterPart_12 n d C a0 x1 M) else (if mK M a0 = 5 then (if (mI M a0 33) = 0 then (if x1 = 60 then (fM_afterPart_58 n d C a0 1 a0 M) else (if x1 = 61 then (fM_afterPart_58 n d C a0 2 a0 M) else (fM_afterPart_58 n d C a0 0 a0 M))) else (if (mI M a0 33) = 1 then (fM_afterPart_104 n d C a0 x1 19 a0 M) else (if (mI M a0 33) = 2 then (fM_afterPart_104 n d C a0 x1 20 a0 M) else (fM_afterPart_104 n d C a0 x1 21 a0 M)))) else none))
set_option maxRecDepth 100000 in
set_option maxHeartbeats 4000000 in
theorem tM_afterPart_0 {n : Nat} (F : FX p s m meth c G R M0 d "HeadCountModel" bM_afterPart 2 (some .int)) (hC : CBs l G d C) : ∀ (a0 : Nat) (x1 : Int32) (M : Mem) (H : Heap) (locs : List Loc) (cells slots : Nat) (ls : Array Slot), fM_afterPart_0 n d C a0 x1 M = some (r, M') → RL G M0 M H locs cells slots → lv_has ls 2 [(0, .ref a0), (1, .int x1)] → W p l e R s m args below meth c H locs cells slots (CQ G below s M0 r M') (F0 m 0 ls []) := by
  obtain ⟨hx, hb, hml, hown, hrt, hlk, hex, hK, hRm⟩ := id F
  intro a0 x1 M H locs cells slots ls h hR hl
  unfold fM_afterPart_0 at h
  refine lv_iload_n hx hb dM_afterPart_0 rfl (lv_at hl 1 rfl) ?_
  refine lv_bipush (v := 43) hx hb dM_afterPart_1 (by decide) ?_
  refine lv_icmp_eq (tgt := 12) hx hb dM_afterPart_3 (by decide) (fun c_1 => ?_) (fun c_1 => ?_)
  · replace h := rz_t c_1 h
    exact tM_afterPart_12 F hC a0 x1 _ _ _ _ _ _ h hR (lv_sub hl [0, 1] rfl)
  · replace h := rz_f c_1 h
    refine lv_iload_n hx hb dM_afterPart_6 rfl (lv_at hl 1 rfl) ?_
    refine lv_bipush (v := 45) hx hb dM_afterPart_7 (by decide) ?_
    refine lv_icmp_ne (tgt := 29) hx hb dM_afterPart_9 (by decide) (fun c_2 => ?_) (fun c_2 => ?_)
    · replace h := rz_f c_2 h
      refine lv_aload_n hx hb dM_afterPart_29 rfl (lv_at hl 0 rfl) ?_
      obtain ⟨c_3, h⟩ := rz_chk h
      refine rg_getI hx hb hown hK hR hk_M 33 (by decide) kf_M_101 rfl c_3 dM_afterPart_30 ?_
      refine lv_if_ne (tgt := 75) hx hb dM_afterPart_33 (by decide) (fun c_4 => ?_) (fun c_4 => ?_)
      · replace h := rz_f c_4 h
        refine lv_aload_n hx hb dM_afterPart_75 rfl (lv_at hl 0 rfl) ?_
        refine lv_aload_n hx hb dM_afterPart_76 rfl (lv_at hl 0 rfl) ?_
        refine rg_getI hx hb hown hK hR hk_M 33 (by decide) kf_M_101 rfl c_3 dM_afterPart_77 ?_
        refine lv_iconst (v := 1) hx hb dM_afterPart_80 (by decide) ?_
        refine lv_icmp_ne (tgt := 89) hx hb dM_afterPart_81 (by decide) (fun c_5 => ?_) (fun c_5 => ?_)
        · replace h := rz_f c_5 h
          refine lv_aload_n hx hb dM_afterPart_89 rfl (lv_at hl 0 rfl) ?_
          refine rg_getI hx hb hown hK hR hk_M 33 (by decide) kf_M_101 rfl c_3 dM_afterPart_90 ?_
          refine lv_iconst (v := 2) hx hb dM_afterPart_93 (by decide) ?_
          refine lv_icmp_ne (tgt := 102) hx hb dM_afterPart_94 (by decide) (fun c_6 => ?_) (fun c_6 => ?_)
          · replace h := rz_f c_6 h
            refine lv_bipush (v := 21) hx hb dM_afterPart_102 (by decide) ?_
            exact tM_afterPart_104 F hC a0 x1 21 a0 _ _ _ _ _ _ h hR (lv_sub hl [0, 1] rfl)
          · replace h := rz_t c_6 h
            refine lv_bipush (v := 20) hx hb dM_afterPart_97 (by decide) ?_
            refine lv_goto (tgt := 104) hx hb dM_afterPart_99 (by decide) ?_
            exact tM_afterPart_104 F hC a0 x1 20 a0 _ _ _ _ _ _ h hR (lv_sub hl [0, 1] rfl)
        · replace h := rz_t c_5 h
          refine lv_bipush (v := 19) hx hb dM_afterPart_84 (by decide) ?_
          refine lv_goto (tgt := 104) hx hb dM_afterPart_86 (by decide) ?_
          exact tM_afterPart_104 F hC a0 x1 19 a0 _ _ _ _ _ _ h hR (lv_sub hl [0, 1] rfl)
      · replace h := rz_t c_4 h
        refine lv_aload_n hx hb dM_afterPart_36 rfl (lv_at hl 0 rfl) ?_
        refine lv_iload_n hx hb dM_afterPart_37 rfl (lv_at hl 1 rfl) ?_
        refine lv_bipush (v := 60) hx hb dM_afterPart_38 (by decide) ?_
        refine lv_icmp_ne (tgt := 47) hx hb dM_afterPart_40 (by decide) (fun c_7 => ?_) (fun c_7 => ?_)
        · replace h := rz_f c_7 h
          refine lv_iload_n hx hb dM_afterPart_47 rfl (lv_at hl 1 rfl) ?_
          refine lv_bipush (v := 61) hx hb dM_afterPart_48 (by decide) ?_
          refine lv_icmp_ne (tgt := 57) hx hb dM_afterPart_50 (by decide) (fun c_8 => ?_) (fun c_8 => ?_)
          · replace h := rz_f c_8 h
            refine lv_iconst (v := 0) hx hb dM_afterPart_57 (by decide) ?_
            exact tM_afterPart_58 F hC a0 0 a0 _ _ _ _ _ _ h hR (lv_sub hl [0] rfl)
          · replace h := rz_t c_8 h
            refine lv_iconst (v := 2) hx hb dM_afterPart_53 (by decide) ?_
            refine lv_goto (tgt := 58) hx hb dM_afterPart_54 (by decide) ?_
            exact tM_afterPart_58 F hC a0 2 a0 _ _ _ _ _ _ h hR (lv_sub hl [0] rfl)
        · replace h := rz_t c_7 h
          refine lv_iconst (v := 1) hx hb dM_afterPart_43 (by decide) ?_
          refine lv_goto (tgt := 58) hx hb dM_afterPart_44 (by decide) ?_
          exact tM_afterPart_58 F hC a0 1 a0 _ _ _ _ _ _ h hR (lv_sub hl [0] rfl)
    · replace h := rz_t c_2 h
      exact tM_afterPart_12 F hC a0 x1 _ _ _ _ _ _ h hR (lv_sub hl [0, 1] rfl)
set_option maxRecDepth 100000 in
set_option maxHeartbeats 4000000 in
theorem sM_afterPart {l : Launch} {G : Gx} {n d : Nat} {C : Cx} (hC : CBs l G d C) (a0 : Nat) (x1 : Int32) {M M' : Mem} {r : Option Value ⊕ Nat} (h : fM_afterPart_0 n d C a0 x1 M = some (r, M')) : CB l G (d + 1) yM_afterPart [.ref a0, .int x1] M r M' := by
  intro p e R s m below meth c hx hn hm hc hlk hK hR hcap hS hU hfr hlo hrc hrs
  obtain ⟨hb, hml, hrt, hex, hown⟩ := fx_of hn hm hc (hK.w mfM_afterPart.2.2.1 rfl #[])
  have F : FX p s m meth c G R M d "HeadCountModel" bM_afterPart 2 (some .int) := ⟨hx, hb, hml, hown, hrt, hlk, hex, hK, hfr, hlo, by rw [← hcap]; exact hrc, hrs⟩
  rw [hml]
  have hl := lv_entry ([.ref a0, .int x1]) (n := 2) (by simp [lg_sl, cat_rf, cat_i, cat_a, cat_l, cat_n])
  rw [lg_entry_eq]
  generalize (lg_sl ([.ref a0, .int x1]) ++ List.replicate (2 - (lg_sl ([.ref a0, .int x1])).length) Slot.unset).toArray = ls at hl ⊢
  have hl : lv_has ls 2 [(0, .ref a0), (1, .int x1)] := by simpa [lv_args, cat_rf, cat_i, cat_a, cat_l, cat_n] using hl
  exact tM_afterPart_0 F hC a0 x1 _ _ _ _ _ _ h (RL.start hR hcap hS hU) (lv_sub hl [0, 1] rfl)
end
