theorem dP_take_0 : decode bP_take 0 = .ok (.aload_n 0, 1) := by decide +kernel
theorem dP_take_1 : decode bP_take 1 = .ok (.invokevirtual 64, 3) := by decide +kernel
theorem dP_take_4 : decode bP_take 4 = .ok (.iload_n 1, 1) := by decide +kernel
theorem dP_take_5 : decode bP_take 5 = .ok (.if_icmp .ne 7, 3) := by decide +kernel
theorem dP_take_8 : decode bP_take 8 = .ok (.iconst 1, 1) := by decide +kernel
theorem dP_take_9 : decode bP_take 9 = .ok (.goto 4, 3) := by decide +kernel
theorem dP_take_12 : decode bP_take 12 = .ok (.iconst 0, 1) := by decide +kernel
theorem dP_take_13 : decode bP_take 13 = .ok (.istore_n 2, 1) := by decide +kernel
theorem dP_take_14 : decode bP_take 14 = .ok (.iload_n 2, 1) := by decide +kernel
theorem dP_take_15 : decode bP_take 15 = .ok (.ifCond .eq 8, 3) := by decide +kernel
theorem dP_take_18 : decode bP_take 18 = .ok (.aload_n 0, 1) := by decide +kernel
theorem dP_take_19 : decode bP_take 19 = .ok (.invokevirtual 112, 3) := by decide +kernel
theorem dP_take_22 : decode bP_take 22 = .ok (.pop, 1) := by decide +kernel
theorem dP_take_23 : decode bP_take 23 = .ok (.iload_n 2, 1) := by decide +kernel
theorem dP_take_24 : decode bP_take 24 = .ok (.ireturn, 1) := by decide +kernel
theorem dP_comparisonOfSets_0 : decode bP_comparisonOfSets 0 = .ok (.aload_n 0, 1) := by decide +kernel
theorem dP_comparisonOfSets_1 : decode bP_comparisonOfSets 1 = .ok (.bipush 91, 2) := by decide +kernel
theorem dP_comparisonOfSets_3 : decode bP_comparisonOfSets 3 = .ok (.invokevirtual 76, 3) := by decide +kernel
theorem dP_comparisonOfSets_6 : decode bP_comparisonOfSets 6 = .ok (.invokestatic 51, 3) := by decide +kernel
theorem dP_comparisonOfSets_9 : decode bP_comparisonOfSets 9 = .ok (.aload_n 0, 1) := by decide +kernel
theorem dP_comparisonOfSets_10 : decode bP_comparisonOfSets 10 = .ok (.bipush 43, 2) := by decide +kernel
theorem dP_comparisonOfSets_12 : decode bP_comparisonOfSets 12 = .ok (.iload_n 1, 1) := by decide +kernel
theorem dP_comparisonOfSets_13 : decode bP_comparisonOfSets 13 = .ok (.invokevirtual 40, 3) := by decide +kernel
theorem dP_comparisonOfSets_16 : decode bP_comparisonOfSets 16 = .ok (.astore_n 2, 1) := by decide +kernel
theorem dP_comparisonOfSets_17 : decode bP_comparisonOfSets 17 = .ok (.aload_n 0, 1) := by decide +kernel
theorem dP_comparisonOfSets_18 : decode bP_comparisonOfSets 18 = .ok (.invokevirtual 112, 3) := by decide +kernel
theorem dP_comparisonOfSets_21 : decode bP_comparisonOfSets 21 = .ok (.istore_n 3, 1) := by decide +kernel
theorem dP_comparisonOfSets_22 : decode bP_comparisonOfSets 22 = .ok (.iload_n 3, 1) := by decide +kernel
theorem dP_comparisonOfSets_23 : decode bP_comparisonOfSets 23 = .ok (.bipush 60, 2) := by decide +kernel
theorem dP_comparisonOfSets_25 : decode bP_comparisonOfSets 25 = .ok (.if_icmp .eq 9, 3) := by decide +kernel
theorem dP_comparisonOfSets_28 : decode bP_comparisonOfSets 28 = .ok (.iload_n 3, 1) := by decide +kernel
theorem dP_comparisonOfSets_29 : decode bP_comparisonOfSets 29 = .ok (.bipush 61, 2) := by decide +kernel
theorem dP_comparisonOfSets_31 : decode bP_comparisonOfSets 31 = .ok (.if_icmp .ne 7, 3) := by decide +kernel
theorem dP_comparisonOfSets_34 : decode bP_comparisonOfSets 34 = .ok (.iconst 1, 1) := by decide +kernel
theorem dP_comparisonOfSets_35 : decode bP_comparisonOfSets 35 = .ok (.goto 4, 3) := by decide +kernel
theorem dP_comparisonOfSets_38 : decode bP_comparisonOfSets 38 = .ok (.iconst 0, 1) := by decide +kernel
theorem dP_comparisonOfSets_39 : decode bP_comparisonOfSets 39 = .ok (.invokestatic 51, 3) := by decide +kernel
theorem dP_comparisonOfSets_42 : decode bP_comparisonOfSets 42 = .ok (.aload_n 0, 1) := by decide +kernel
theorem dP_comparisonOfSets_43 : decode bP_comparisonOfSets 43 = .ok (.iload_n 3, 1) := by decide +kernel
theorem dP_comparisonOfSets_44 : decode bP_comparisonOfSets 44 = .ok (.bipush 60, 2) := by decide +kernel
theorem dP_comparisonOfSets_46 : decode bP_comparisonOfSets 46 = .ok (.if_icmp .ne 8, 3) := by decide +kernel
theorem dP_comparisonOfSets_49 : decode bP_comparisonOfSets 49 = .ok (.bipush 91, 2) := by decide +kernel
theorem dP_comparisonOfSets_51 : decode bP_comparisonOfSets 51 = .ok (.goto 5, 3) := by decide +kernel
theorem dP_comparisonOfSets_54 : decode bP_comparisonOfSets 54 = .ok (.bipush 93, 2) := by decide +kernel
theorem dP_comparisonOfSets_56 : decode bP_comparisonOfSets 56 = .ok (.invokevirtual 68, 3) := by decide +kernel
theorem dP_comparisonOfSets_59 : decode bP_comparisonOfSets 59 = .ok (.astore 4, 2) := by decide +kernel
theorem dP_comparisonOfSets_61 : decode bP_comparisonOfSets 61 = .ok (.aload 4, 2) := by decide +kernel
theorem dP_comparisonOfSets_63 : decode bP_comparisonOfSets 63 = .ok (.aload_n 2, 1) := by decide +kernel
theorem dP_comparisonOfSets_64 : decode bP_comparisonOfSets 64 = .ok (.putfield 72, 3) := by decide +kernel
theorem dP_comparisonOfSets_67 : decode bP_comparisonOfSets 67 = .ok (.aload_n 2, 1) := by decide +kernel
theorem dP_comparisonOfSets_68 : decode bP_comparisonOfSets 68 = .ok (.aload_n 0, 1) := by decide +kernel
theorem dP_comparisonOfSets_69 : decode bP_comparisonOfSets 69 = .ok (.bipush 43, 2) := by decide +kernel
theorem dP_comparisonOfSets_71 : decode bP_comparisonOfSets 71 = .ok (.iload_n 1, 1) := by decide +kernel
theorem dP_comparisonOfSets_72 : decode bP_comparisonOfSets 72 = .ok (.invokevirtual 40, 3) := by decide +kernel
theorem dP_comparisonOfSets_75 : decode bP_comparisonOfSets 75 = .ok (.putfield 80, 3) := by decide +kernel
theorem dP_comparisonOfSets_78 : decode bP_comparisonOfSets 78 = .ok (.aload_n 0, 1) := by decide +kernel
theorem dP_comparisonOfSets_79 : decode bP_comparisonOfSets 79 = .ok (.bipush 93, 2) := by decide +kernel
theorem dP_comparisonOfSets_81 : decode bP_comparisonOfSets 81 = .ok (.invokevirtual 76, 3) := by decide +kernel
theorem dP_comparisonOfSets_84 : decode bP_comparisonOfSets 84 = .ok (.invokestatic 51, 3) := by decide +kernel
theorem dP_comparisonOfSets_87 : decode bP_comparisonOfSets 87 = .ok (.aload 4, 2) := by decide +kernel
theorem dP_comparisonOfSets_89 : decode bP_comparisonOfSets 89 = .ok (.areturn, 1) := by decide +kernel
theorem dP_startsWithDivisor_0 : decode bP_startsWithDivisor 0 = .ok (.aload_n 0, 1) := by decide +kernel
theorem dP_startsWithDivisor_1 : decode bP_startsWithDivisor 1 = .ok (.invokevirtual 64, 3) := by decide +kernel
theorem dP_startsWithDivisor_4 : decode bP_startsWithDivisor 4 = .ok (.invokestatic 121, 3) := by decide +kernel
theorem dP_startsWithDivisor_7 : decode bP_startsWithDivisor 7 = .ok (.ifCond .ne 5, 3) := by decide +kernel
theorem dP_startsWithDivisor_10 : decode bP_startsWithDivisor 10 = .ok (.iconst 0, 1) := by decide +kernel
theorem dP_startsWithDivisor_11 : decode bP_startsWithDivisor 11 = .ok (.ireturn, 1) := by decide +kernel
theorem dP_startsWithDivisor_12 : decode bP_startsWithDivisor 12 = .ok (.aload_n 0, 1) := by decide +kernel
theorem dP_startsWithDivisor_13 : decode bP_startsWithDivisor 13 = .ok (.getfield 44, 3) := by decide +kernel
theorem dP_startsWithDivisor_16 : decode bP_startsWithDivisor 16 = .ok (.istore_n 1, 1) := by decide +kernel
theorem dP_startsWithDivisor_17 : decode bP_startsWithDivisor 17 = .ok (.aload_n 0, 1) := by decide +kernel
theorem dP_startsWithDivisor_18 : decode bP_startsWithDivisor 18 = .ok (.invokevirtual 124, 3) := by decide +kernel
theorem dP_startsWithDivisor_21 : decode bP_startsWithDivisor 21 = .ok (.pop, 1) := by decide +kernel
theorem dP_startsWithDivisor_22 : decode bP_startsWithDivisor 22 = .ok (.aload_n 0, 1) := by decide +kernel
theorem dP_startsWithDivisor_23 : decode bP_startsWithDivisor 23 = .ok (.invokevirtual 64, 3) := by decide +kernel
theorem dP_startsWithDivisor_26 : decode bP_startsWithDivisor 26 = .ok (.bipush 58, 2) := by decide +kernel
theorem dP_startsWithDivisor_28 : decode bP_startsWithDivisor 28 = .ok (.if_icmp .ne 7, 3) := by decide +kernel
theorem dP_startsWithDivisor_31 : decode bP_startsWithDivisor 31 = .ok (.iconst 1, 1) := by decide +kernel
theorem dP_startsWithDivisor_32 : decode bP_startsWithDivisor 32 = .ok (.goto 4, 3) := by decide +kernel
theorem dP_startsWithDivisor_35 : decode bP_startsWithDivisor 35 = .ok (.iconst 0, 1) := by decide +kernel
theorem dP_startsWithDivisor_36 : decode bP_startsWithDivisor 36 = .ok (.istore_n 2, 1) := by decide +kernel
theorem dP_startsWithDivisor_37 : decode bP_startsWithDivisor 37 = .ok (.aload_n 0, 1) := by decide +kernel
theorem dP_startsWithDivisor_38 : decode bP_startsWithDivisor 38 = .ok (.iload_n 1, 1) := by decide +kernel
theorem dP_startsWithDivisor_39 : decode bP_startsWithDivisor 39 = .ok (.putfield 44, 3) := by decide +kernel
theorem dP_startsWithDivisor_42 : decode bP_startsWithDivisor 42 = .ok (.iload_n 2, 1) := by decide +kernel
theorem dP_startsWithDivisor_43 : decode bP_startsWithDivisor 43 = .ok (.ireturn, 1) := by decide +kernel
theorem dP_isDecimal_0 : decode bP_isDecimal 0 = .ok (.iload_n 0, 1) := by decide +kernel
theorem dP_isDecimal_1 : decode bP_isDecimal 1 = .ok (.bipush 48, 2) := by decide +kernel
theorem dP_isDecimal_3 : decode bP_isDecimal 3 = .ok (.if_icmp .lt 13, 3) := by decide +kernel
theorem dP_isDecimal_6 : decode bP_isDecimal 6 = .ok (.iload_n 0, 1) := by decide +kernel
theorem dP_isDecimal_7 : decode bP_isDecimal 7 = .ok (.bipush 57, 2) := by decide +kernel
theorem dP_isDecimal_9 : decode bP_isDecimal 9 = .ok (.if_icmp .gt 7, 3) := by decide +kernel
theorem dP_isDecimal_12 : decode bP_isDecimal 12 = .ok (.iconst 1, 1) := by decide +kernel
theorem dP_isDecimal_13 : decode bP_isDecimal 13 = .ok (.goto 4, 3) := by decide +kernel
theorem dP_isDecimal_16 : decode bP_isDecimal 16 = .ok (.iconst 0, 1) := by decide +kernel
theorem dP_isDecimal_17 : decode bP_isDecimal 17 = .ok (.ireturn, 1) := by decide +kernel
theorem dP_number_0 : decode bP_number 0 = .ok (.iconst 0, 1) := by decide +kernel
theorem dP_number_1 : decode bP_number 1 = .ok (.istore_n 1, 1) := by decide +kernel
theorem dP_number_2 : decode bP_number 2 = .ok (.iconst 0, 1) := by decide +kernel
theorem dP_number_3 : decode bP_number 3 = .ok (.istore_n 2, 1) := by decide +kernel
theorem dP_number_4 : decode bP_number 4 = .ok (.iload_n 2, 1) := by decide +kernel
theorem dP_number_5 : decode bP_number 5 = .ok (.iconst 3, 1) := by decide +kernel
theorem dP_number_6 : decode bP_number 6 = .ok (.if_icmp .ge 32, 3) := by decide +kernel
theorem dP_number_9 : decode bP_number 9 = .ok (.aload_n 0, 1) := by decide +kernel
theorem dP_number_10 : decode bP_number 10 = .ok (.invokevirtual 64, 3) := by decide +kernel
theorem dP_number_13 : decode bP_number 13 = .ok (.invokestatic 121, 3) := by decide +kernel
theorem dP_number_16 : decode bP_number 16 = .ok (.ifCond .eq 22, 3) := by decide +kernel
theorem dP_number_19 : decode bP_number 19 = .ok (.bipush 10, 2) := by decide +kernel
theorem dP_number_21 : decode bP_number 21 = .ok (.iload_n 1, 1) := by decide +kernel
theorem dP_number_22 : decode bP_number 22 = .ok (.imul, 1) := by decide +kernel
theorem dP_number_23 : decode bP_number 23 = .ok (.aload_n 0, 1) := by decide +kernel
theorem dP_number_24 : decode bP_number 24 = .ok (.invokevirtual 112, 3) := by decide +kernel
theorem dP_number_27 : decode bP_number 27 = .ok (.bipush 48, 2) := by decide +kernel
theorem dP_number_29 : decode bP_number 29 = .ok (.isub, 1) := by decide +kernel
theorem dP_number_30 : decode bP_number 30 = .ok (.iadd, 1) := by decide +kernel
theorem dP_number_31 : decode bP_number 31 = .ok (.istore_n 1, 1) := by decide +kernel
theorem dP_number_32 : decode bP_number 32 = .ok (.iinc 2 1, 3) := by decide +kernel
theorem dP_number_35 : decode bP_number 35 = .ok (.goto (-31), 3) := by decide +kernel
theorem dP_number_38 : decode bP_number 38 = .ok (.iload_n 2, 1) := by decide +kernel
theorem dP_number_39 : decode bP_number 39 = .ok (.ifCond .le 17, 3) := by decide +kernel
theorem dP_number_42 : decode bP_number 42 = .ok (.aload_n 0, 1) := by decide +kernel
theorem dP_number_43 : decode bP_number 43 = .ok (.invokevirtual 64, 3) := by decide +kernel
theorem dP_number_46 : decode bP_number 46 = .ok (.invokestatic 121, 3) := by decide +kernel
theorem dP_number_49 : decode bP_number 49 = .ok (.ifCond .ne 7, 3) := by decide +kernel
theorem dP_number_52 : decode bP_number 52 = .ok (.iconst 1, 1) := by decide +kernel
theorem dP_number_53 : decode bP_number 53 = .ok (.goto 4, 3) := by decide +kernel
theorem dP_number_56 : decode bP_number 56 = .ok (.iconst 0, 1) := by decide +kernel
theorem dP_number_57 : decode bP_number 57 = .ok (.invokestatic 51, 3) := by decide +kernel
theorem dP_number_60 : decode bP_number 60 = .ok (.iload_n 1, 1) := by decide +kernel
theorem dP_number_61 : decode bP_number 61 = .ok (.ireturn, 1) := by decide +kernel
theorem dP_divided_0 : decode bP_divided 0 = .ok (.aload_n 0, 1) := by decide +kernel
theorem dP_divided_1 : decode bP_divided 1 = .ok (.invokevirtual 124, 3) := by decide +kernel
theorem dP_divided_4 : decode bP_divided 4 = .ok (.istore_n 2, 1) := by decide +kernel
theorem dP_divided_5 : decode bP_divided 5 = .ok (.iload_n 2, 1) := by decide +kernel
theorem dP_divided_6 : decode bP_divided 6 = .ok (.ifCond .eq 7, 3) := by decide +kernel
theorem dP_divided_9 : decode bP_divided 9 = .ok (.iconst 1, 1) := by decide +kernel
theorem dP_divided_10 : decode bP_divided 10 = .ok (.goto 4, 3) := by decide +kernel
theorem dP_divided_13 : decode bP_divided 13 = .ok (.iconst 0, 1) := by decide +kernel
theorem dP_divided_14 : decode bP_divided 14 = .ok (.invokestatic 51, 3) := by decide +kernel
theorem dP_divided_17 : decode bP_divided 17 = .ok (.aload_n 0, 1) := by decide +kernel
theorem dP_divided_18 : decode bP_divided 18 = .ok (.aload_n 0, 1) := by decide +kernel
theorem dP_divided_19 : decode bP_divided 19 = .ok (.invokevirtual 112, 3) := by decide +kernel
theorem dP_divided_22 : decode bP_divided 22 = .ok (.invokevirtual 68, 3) := by decide +kernel
theorem dP_divided_25 : decode bP_divided 25 = .ok (.astore_n 3, 1) := by decide +kernel
theorem dP_divided_26 : decode bP_divided 26 = .ok (.aload_n 3, 1) := by decide +kernel
theorem dP_divided_27 : decode bP_divided 27 = .ok (.iload_n 2, 1) := by decide +kernel
theorem dP_divided_28 : decode bP_divided 28 = .ok (.putfield 127, 3) := by decide +kernel
theorem dP_divided_31 : decode bP_divided 31 = .ok (.aload_n 0, 1) := by decide +kernel
theorem dP_divided_32 : decode bP_divided 32 = .ok (.aload_n 3, 1) := by decide +kernel
theorem dP_divided_33 : decode bP_divided 33 = .ok (.iconst 1, 1) := by decide +kernel
theorem dP_divided_34 : decode bP_divided 34 = .ok (.iload_n 1, 1) := by decide +kernel
theorem dP_divided_35 : decode bP_divided 35 = .ok (.invokevirtual 129, 3) := by decide +kernel
theorem dP_divided_38 : decode bP_divided 38 = .ok (.aload_n 3, 1) := by decide +kernel
theorem dP_divided_39 : decode bP_divided 39 = .ok (.areturn, 1) := by decide +kernel
theorem dP_addSum_0 : decode bP_addSum 0 = .ok (.aload_n 0, 1) := by decide +kernel
theorem dP_addSum_1 : decode bP_addSum 1 = .ok (.aload_n 1, 1) := by decide +kernel
theorem dP_addSum_2 : decode bP_addSum 2 = .ok (.aload_n 0, 1) := by decide +kernel
theorem dP_addSum_3 : decode bP_addSum 3 = .ok (.bipush 45, 2) := by decide +kernel
theorem dP_addSum_5 : decode bP_addSum 5 = .ok (.invokevirtual 76, 3) := by decide +kernel
theorem dP_addSum_8 : decode bP_addSum 8 = .ok (.ifCond .eq 8, 3) := by decide +kernel
theorem dP_addSum_11 : decode bP_addSum 11 = .ok (.iload_n 2, 1) := by decide +kernel
theorem dP_addSum_12 : decode bP_addSum 12 = .ok (.ineg, 1) := by decide +kernel
theorem dP_addSum_13 : decode bP_addSum 13 = .ok (.goto 4, 3) := by decide +kernel
theorem dP_addSum_16 : decode bP_addSum 16 = .ok (.iload_n 2, 1) := by decide +kernel
theorem dP_addSum_17 : decode bP_addSum 17 = .ok (.iload_n 3, 1) := by decide +kernel
theorem dP_addSum_18 : decode bP_addSum 18 = .ok (.invokevirtual 137, 3) := by decide +kernel
theorem dP_addSum_21 : decode bP_addSum 21 = .ok (.iconst 0, 1) := by decide +kernel
theorem dP_addSum_22 : decode bP_addSum 22 = .ok (.istore 4, 2) := by decide +kernel
theorem dP_addSum_24 : decode bP_addSum 24 = .ok (.iload 4, 2) := by decide +kernel
theorem dP_addSum_26 : decode bP_addSum 26 = .ok (.bipush 120, 2) := by decide +kernel
theorem dP_addSum_28 : decode bP_addSum 28 = .ok (.if_icmp .ge 48, 3) := by decide +kernel
theorem dP_addSum_31 : decode bP_addSum 31 = .ok (.aload_n 0, 1) := by decide +kernel
theorem dP_addSum_32 : decode bP_addSum 32 = .ok (.invokevirtual 64, 3) := by decide +kernel
theorem dP_addSum_35 : decode bP_addSum 35 = .ok (.bipush 43, 2) := by decide +kernel
theorem dP_addSum_37 : decode bP_addSum 37 = .ok (.if_icmp .eq 12, 3) := by decide +kernel
theorem dP_addSum_40 : decode bP_addSum 40 = .ok (.aload_n 0, 1) := by decide +kernel
theorem dP_addSum_41 : decode bP_addSum 41 = .ok (.invokevirtual 64, 3) := by decide +kernel
theorem dP_addSum_44 : decode bP_addSum 44 = .ok (.bipush 45, 2) := by decide +kernel
theorem dP_addSum_46 : decode bP_addSum 46 = .ok (.if_icmp .ne 30, 3) := by decide +kernel
theorem dP_addSum_49 : decode bP_addSum 49 = .ok (.aload_n 0, 1) := by decide +kernel
theorem dP_addSum_50 : decode bP_addSum 50 = .ok (.aload_n 1, 1) := by decide +kernel
theorem dP_addSum_51 : decode bP_addSum 51 = .ok (.aload_n 0, 1) := by decide +kernel
theorem dP_addSum_52 : decode bP_addSum 52 = .ok (.invokevirtual 112, 3) := by decide +kernel
theorem dP_addSum_55 : decode bP_addSum 55 = .ok (.bipush 45, 2) := by decide +kernel
theorem dP_addSum_57 : decode bP_addSum 57 = .ok (.if_icmp .ne 8, 3) := by decide +kernel
theorem dP_addSum_60 : decode bP_addSum 60 = .ok (.iload_n 2, 1) := by decide +kernel
theorem dP_addSum_61 : decode bP_addSum 61 = .ok (.ineg, 1) := by decide +kernel
theorem dP_addSum_62 : decode bP_addSum 62 = .ok (.goto 4, 3) := by decide +kernel
theorem dP_addSum_65 : decode bP_addSum 65 = .ok (.iload_n 2, 1) := by decide +kernel
theorem dP_addSum_66 : decode bP_addSum 66 = .ok (.iload_n 3, 1) := by decide +kernel
theorem dP_addSum_67 : decode bP_addSum 67 = .ok (.invokevirtual 137, 3) := by decide +kernel
theorem dP_addSum_70 : decode bP_addSum 70 = .ok (.iinc 4 1, 3) := by decide +kernel
theorem dP_addSum_73 : decode bP_addSum 73 = .ok (.goto (-49), 3) := by decide +kernel
theorem dP_addSum_76 : decode bP_addSum 76 = .ok (.return_, 1) := by decide +kernel
theorem dP_addPart_0 : decode bP_addPart 0 = .ok (.iload_n 2, 1) := by decide +kernel
theorem dP_addPart_1 : decode bP_addPart 1 = .ok (.istore 4, 2) := by decide +kernel
theorem dP_addPart_3 : decode bP_addPart 3 = .ok (.iconst 0, 1) := by decide +kernel
theorem dP_addPart_4 : decode bP_addPart 4 = .ok (.istore 5, 2) := by decide +kernel
theorem dP_addPart_6 : decode bP_addPart 6 = .ok (.aload_n 0, 1) := by decide +kernel
theorem dP_addPart_7 : decode bP_addPart 7 = .ok (.invokevirtual 64, 3) := by decide +kernel
theorem dP_addPart_10 : decode bP_addPart 10 = .ok (.invokestatic 121, 3) := by decide +kernel
theorem dP_addPart_13 : decode bP_addPart 13 = .ok (.ifCond .eq 27, 3) := by decide +kernel
theorem dP_addPart_16 : decode bP_addPart 16 = .ok (.iload_n 2, 1) := by decide +kernel
theorem dP_addPart_17 : decode bP_addPart 17 = .ok (.aload_n 0, 1) := by decide +kernel
theorem dP_addPart_18 : decode bP_addPart 18 = .ok (.invokevirtual 124, 3) := by decide +kernel
theorem dP_addPart_21 : decode bP_addPart 21 = .ok (.imul, 1) := by decide +kernel
theorem dP_addPart_22 : decode bP_addPart 22 = .ok (.istore 4, 2) := by decide +kernel
theorem dP_addPart_24 : decode bP_addPart 24 = .ok (.aload_n 0, 1) := by decide +kernel
theorem dP_addPart_25 : decode bP_addPart 25 = .ok (.bipush 42, 2) := by decide +kernel
theorem dP_addPart_27 : decode bP_addPart 27 = .ok (.invokevirtual 76, 3) := by decide +kernel
theorem dP_addPart_30 : decode bP_addPart 30 = .ok (.ifCond .ne 7, 3) := by decide +kernel
theorem dP_addPart_33 : decode bP_addPart 33 = .ok (.iconst 1, 1) := by decide +kernel
theorem dP_addPart_34 : decode bP_addPart 34 = .ok (.goto 4, 3) := by decide +kernel
theorem dP_addPart_37 : decode bP_addPart 37 = .ok (.iconst 0, 1) := by decide +kernel
theorem dP_addPart_38 : decode bP_addPart 38 = .ok (.istore 5, 2) := by decide +kernel
theorem dP_addPart_40 : decode bP_addPart 40 = .ok (.iload 5, 2) := by decide +kernel
theorem dP_addPart_42 : decode bP_addPart 42 = .ok (.ifCond .eq 12, 3) := by decide +kernel
theorem dP_addPart_45 : decode bP_addPart 45 = .ok (.aload_n 0, 1) := by decide +kernel
theorem dP_addPart_46 : decode bP_addPart 46 = .ok (.bipush 49, 2) := by decide +kernel
theorem dP_addPart_48 : decode bP_addPart 48 = .ok (.invokevirtual 68, 3) := by decide +kernel
theorem dP_addPart_51 : decode bP_addPart 51 = .ok (.goto 8, 3) := by decide +kernel
theorem dP_addPart_54 : decode bP_addPart 54 = .ok (.aload_n 0, 1) := by decide +kernel
theorem dP_addPart_55 : decode bP_addPart 55 = .ok (.iload_n 3, 1) := by decide +kernel
theorem dP_addPart_56 : decode bP_addPart 56 = .ok (.invokevirtual 140, 3) := by decide +kernel
theorem dP_addPart_59 : decode bP_addPart 59 = .ok (.astore 6, 2) := by decide +kernel
theorem dP_addPart_61 : decode bP_addPart 61 = .ok (.aload 6, 2) := by decide +kernel
theorem dP_addPart_63 : decode bP_addPart 63 = .ok (.iload 4, 2) := by decide +kernel
theorem dP_addPart_65 : decode bP_addPart 65 = .ok (.putfield 127, 3) := by decide +kernel
theorem dP_addPart_68 : decode bP_addPart 68 = .ok (.aload 6, 2) := by decide +kernel
theorem dP_addPart_70 : decode bP_addPart 70 = .ok (.aload_n 1, 1) := by decide +kernel
theorem dP_addPart_71 : decode bP_addPart 71 = .ok (.getfield 72, 3) := by decide +kernel
theorem dP_addPart_74 : decode bP_addPart 74 = .ok (.putfield 80, 3) := by decide +kernel
theorem dP_addPart_77 : decode bP_addPart 77 = .ok (.aload_n 1, 1) := by decide +kernel
theorem dP_addPart_78 : decode bP_addPart 78 = .ok (.aload 6, 2) := by decide +kernel
theorem dP_addPart_80 : decode bP_addPart 80 = .ok (.putfield 72, 3) := by decide +kernel
theorem dP_addPart_83 : decode bP_addPart 83 = .ok (.return_, 1) := by decide +kernel
theorem dP_thing_0 : decode bP_thing 0 = .ok (.aload_n 0, 1) := by decide +kernel
theorem dP_thing_1 : decode bP_thing 1 = .ok (.invokevirtual 112, 3) := by decide +kernel
theorem dP_thing_4 : decode bP_thing 4 = .ok (.istore_n 2, 1) := by decide +kernel
theorem dP_thing_5 : decode bP_thing 5 = .ok (.aload_n 0, 1) := by decide +kernel
theorem dP_thing_6 : decode bP_thing 6 = .ok (.iload_n 2, 1) := by decide +kernel
theorem dP_thing_7 : decode bP_thing 7 = .ok (.invokevirtual 68, 3) := by decide +kernel
theorem dP_thing_10 : decode bP_thing 10 = .ok (.astore_n 3, 1) := by decide +kernel
theorem dP_thing_11 : decode bP_thing 11 = .ok (.iload_n 2, 1) := by decide +kernel
theorem dP_thing_12 : decode bP_thing 12 = .ok (.bipush 35, 2) := by decide +kernel
theorem dP_thing_14 : decode bP_thing 14 = .ok (.if_icmp .ne 17, 3) := by decide +kernel
theorem dP_thing_17 : decode bP_thing 17 = .ok (.aload_n 3, 1) := by decide +kernel
theorem dP_thing_18 : decode bP_thing 18 = .ok (.aload_n 0, 1) := by decide +kernel
theorem dP_thing_19 : decode bP_thing 19 = .ok (.iload_n 1, 1) := by decide +kernel
theorem dP_thing_20 : decode bP_thing 20 = .ok (.iconst 1, 1) := by decide +kernel
theorem dP_thing_21 : decode bP_thing 21 = .ok (.iadd, 1) := by decide +kernel
theorem dP_thing_22 : decode bP_thing 22 = .ok (.invokevirtual 87, 3) := by decide +kernel
theorem dP_thing_25 : decode bP_thing 25 = .ok (.putfield 72, 3) := by decide +kernel
theorem dP_thing_28 : decode bP_thing 28 = .ok (.goto 34, 3) := by decide +kernel
theorem dP_thing_31 : decode bP_thing 31 = .ok (.iload_n 2, 1) := by decide +kernel
theorem dP_thing_32 : decode bP_thing 32 = .ok (.bipush 110, 2) := by decide +kernel
theorem dP_thing_34 : decode bP_thing 34 = .ok (.if_icmp .eq 28, 3) := by decide +kernel
theorem dP_thing_37 : decode bP_thing 37 = .ok (.aload_n 3, 1) := by decide +kernel
theorem dP_thing_38 : decode bP_thing 38 = .ok (.aload_n 0, 1) := by decide +kernel
theorem dP_thing_39 : decode bP_thing 39 = .ok (.iload_n 2, 1) := by decide +kernel
theorem dP_thing_40 : decode bP_thing 40 = .ok (.invokevirtual 143, 3) := by decide +kernel
theorem dP_thing_43 : decode bP_thing 43 = .ok (.putfield 118, 3) := by decide +kernel
theorem dP_thing_46 : decode bP_thing 46 = .ok (.aload_n 3, 1) := by decide +kernel
theorem dP_thing_47 : decode bP_thing 47 = .ok (.getfield 118, 3) := by decide +kernel
theorem dP_thing_50 : decode bP_thing 50 = .ok (.iconst 3, 1) := by decide +kernel
theorem dP_thing_51 : decode bP_thing 51 = .ok (.if_icmp .ge 7, 3) := by decide +kernel
theorem dP_thing_54 : decode bP_thing 54 = .ok (.iconst 1, 1) := by decide +kernel
theorem dP_thing_55 : decode bP_thing 55 = .ok (.goto 4, 3) := by decide +kernel
theorem dP_thing_58 : decode bP_thing 58 = .ok (.iconst 0, 1) := by decide +kernel
theorem dP_thing_59 : decode bP_thing 59 = .ok (.invokestatic 51, 3) := by decide +kernel
theorem dP_thing_62 : decode bP_thing 62 = .ok (.aload_n 3, 1) := by decide +kernel
theorem dP_thing_63 : decode bP_thing 63 = .ok (.areturn, 1) := by decide +kernel
theorem dP_single_0 : decode bP_single 0 = .ok (.iload_n 1, 1) := by decide +kernel
theorem dP_single_1 : decode bP_single 1 = .ok (.bipush 12, 2) := by decide +kernel
theorem dP_single_3 : decode bP_single 3 = .ok (.if_icmp .gt 7, 3) := by decide +kernel
theorem dP_single_6 : decode bP_single 6 = .ok (.iconst 1, 1) := by decide +kernel
theorem dP_single_7 : decode bP_single 7 = .ok (.goto 4, 3) := by decide +kernel
theorem dP_single_10 : decode bP_single 10 = .ok (.iconst 0, 1) := by decide +kernel
theorem dP_single_11 : decode bP_single 11 = .ok (.invokestatic 51, 3) := by decide +kernel
theorem dP_single_14 : decode bP_single 14 = .ok (.aload_n 0, 1) := by decide +kernel
theorem dP_single_15 : decode bP_single 15 = .ok (.invokevirtual 112, 3) := by decide +kernel
theorem dP_single_18 : decode bP_single 18 = .ok (.istore_n 2, 1) := by decide +kernel
theorem dP_single_19 : decode bP_single 19 = .ok (.iload_n 2, 1) := by decide +kernel
theorem dP_single_20 : decode bP_single 20 = .ok (.bipush 40, 2) := by decide +kernel
theorem dP_single_22 : decode bP_single 22 = .ok (.if_icmp .ne 24, 3) := by decide +kernel
theorem dP_single_25 : decode bP_single 25 = .ok (.aload_n 0, 1) := by decide +kernel
theorem dP_single_26 : decode bP_single 26 = .ok (.bipush 43, 2) := by decide +kernel
theorem dP_single_28 : decode bP_single 28 = .ok (.iload_n 1, 1) := by decide +kernel
theorem dP_single_29 : decode bP_single 29 = .ok (.iconst 1, 1) := by decide +kernel
theorem dP_single_30 : decode bP_single 30 = .ok (.iadd, 1) := by decide +kernel
theorem dP_single_31 : decode bP_single 31 = .ok (.invokevirtual 40, 3) := by decide +kernel
theorem dP_single_34 : decode bP_single 34 = .ok (.astore_n 3, 1) := by decide +kernel
theorem dP_single_35 : decode bP_single 35 = .ok (.aload_n 0, 1) := by decide +kernel
theorem dP_single_36 : decode bP_single 36 = .ok (.bipush 41, 2) := by decide +kernel
theorem dP_single_38 : decode bP_single 38 = .ok (.invokevirtual 76, 3) := by decide +kernel
theorem dP_single_41 : decode bP_single 41 = .ok (.invokestatic 51, 3) := by decide +kernel
theorem dP_single_44 : decode bP_single 44 = .ok (.aload_n 3, 1) := by decide +kernel
theorem dP_single_45 : decode bP_single 45 = .ok (.areturn, 1) := by decide +kernel
theorem dP_single_46 : decode bP_single 46 = .ok (.aload_n 0, 1) := by decide +kernel
theorem dP_single_47 : decode bP_single 47 = .ok (.iload_n 2, 1) := by decide +kernel
theorem dP_single_48 : decode bP_single 48 = .ok (.invokevirtual 68, 3) := by decide +kernel
theorem dP_single_51 : decode bP_single 51 = .ok (.astore_n 3, 1) := by decide +kernel
theorem dP_single_52 : decode bP_single 52 = .ok (.iload_n 2, 1) := by decide +kernel
theorem dP_single_53 : decode bP_single 53 = .ok (.bipush 45, 2) := by decide +kernel
theorem dP_single_55 : decode bP_single 55 = .ok (.if_icmp .ne 17, 3) := by decide +kernel
theorem dP_single_58 : decode bP_single 58 = .ok (.aload_n 3, 1) := by decide +kernel
theorem dP_single_59 : decode bP_single 59 = .ok (.aload_n 0, 1) := by decide +kernel
theorem dP_single_60 : decode bP_single 60 = .ok (.iload_n 1, 1) := by decide +kernel
theorem dP_single_61 : decode bP_single 61 = .ok (.iconst 1, 1) := by decide +kernel
theorem dP_single_62 : decode bP_single 62 = .ok (.iadd, 1) := by decide +kernel
theorem dP_single_63 : decode bP_single 63 = .ok (.invokevirtual 87, 3) := by decide +kernel
theorem dP_single_66 : decode bP_single 66 = .ok (.putfield 72, 3) := by decide +kernel
theorem dP_single_69 : decode bP_single 69 = .ok (.goto 40, 3) := by decide +kernel
theorem dP_single_72 : decode bP_single 72 = .ok (.iload_n 2, 1) := by decide +kernel
theorem dP_single_73 : decode bP_single 73 = .ok (.bipush 48, 2) := by decide +kernel
theorem dP_single_75 : decode bP_single 75 = .ok (.if_icmp .eq 34, 3) := by decide +kernel
theorem dP_single_78 : decode bP_single 78 = .ok (.iload_n 2, 1) := by decide +kernel
theorem dP_single_79 : decode bP_single 79 = .ok (.bipush 49, 2) := by decide +kernel
theorem dP_single_81 : decode bP_single 81 = .ok (.if_icmp .eq 28, 3) := by decide +kernel
theorem dP_single_84 : decode bP_single 84 = .ok (.aload_n 3, 1) := by decide +kernel
theorem dP_single_85 : decode bP_single 85 = .ok (.aload_n 0, 1) := by decide +kernel
theorem dP_single_86 : decode bP_single 86 = .ok (.iload_n 2, 1) := by decide +kernel
theorem dP_single_87 : decode bP_single 87 = .ok (.invokevirtual 143, 3) := by decide +kernel
theorem dP_single_90 : decode bP_single 90 = .ok (.putfield 118, 3) := by decide +kernel
theorem dP_single_93 : decode bP_single 93 = .ok (.aload_n 3, 1) := by decide +kernel
theorem dP_single_94 : decode bP_single 94 = .ok (.getfield 118, 3) := by decide +kernel
theorem dP_single_97 : decode bP_single 97 = .ok (.iconst 3, 1) := by decide +kernel
theorem dP_single_98 : decode bP_single 98 = .ok (.if_icmp .lt 7, 3) := by decide +kernel
theorem dP_single_101 : decode bP_single 101 = .ok (.iconst 1, 1) := by decide +kernel
theorem dP_single_102 : decode bP_single 102 = .ok (.goto 4, 3) := by decide +kernel
theorem dP_single_105 : decode bP_single 105 = .ok (.iconst 0, 1) := by decide +kernel
theorem dP_single_106 : decode bP_single 106 = .ok (.invokestatic 51, 3) := by decide +kernel
theorem dP_single_109 : decode bP_single 109 = .ok (.aload_n 3, 1) := by decide +kernel
theorem dP_single_110 : decode bP_single 110 = .ok (.areturn, 1) := by decide +kernel
theorem dP_boundVariable_0 : decode bP_boundVariable 0 = .ok (.ldc 15, 2) := by decide +kernel
theorem dP_boundVariable_2 : decode bP_boundVariable 2 = .ok (.iload_n 1, 1) := by decide +kernel
theorem dP_boundVariable_3 : decode bP_boundVariable 3 = .ok (.invokevirtual 114, 3) := by decide +kernel
theorem dP_boundVariable_6 : decode bP_boundVariable 6 = .ok (.istore_n 2, 1) := by decide +kernel
theorem dP_boundVariable_7 : decode bP_boundVariable 7 = .ok (.iload_n 2, 1) := by decide +kernel
theorem dP_boundVariable_8 : decode bP_boundVariable 8 = .ok (.ifCond .lt 25, 3) := by decide +kernel
theorem dP_boundVariable_11 : decode bP_boundVariable 11 = .ok (.iload_n 2, 1) := by decide +kernel
theorem dP_boundVariable_12 : decode bP_boundVariable 12 = .ok (.aload_n 0, 1) := by decide +kernel
theorem dP_boundVariable_13 : decode bP_boundVariable 13 = .ok (.getfield 23, 3) := by decide +kernel
theorem dP_boundVariable_16 : decode bP_boundVariable 16 = .ok (.arraylength, 1) := by decide +kernel
theorem dP_boundVariable_17 : decode bP_boundVariable 17 = .ok (.if_icmp .ge 16, 3) := by decide +kernel
theorem dP_boundVariable_20 : decode bP_boundVariable 20 = .ok (.aload_n 0, 1) := by decide +kernel
theorem dP_boundVariable_21 : decode bP_boundVariable 21 = .ok (.getfield 23, 3) := by decide +kernel
theorem dP_boundVariable_24 : decode bP_boundVariable 24 = .ok (.iload_n 2, 1) := by decide +kernel
theorem dP_boundVariable_25 : decode bP_boundVariable 25 = .ok (.baload, 1) := by decide +kernel
theorem dP_boundVariable_26 : decode bP_boundVariable 26 = .ok (.ifCond .eq 7, 3) := by decide +kernel
theorem dP_boundVariable_29 : decode bP_boundVariable 29 = .ok (.iconst 1, 1) := by decide +kernel
theorem dP_boundVariable_30 : decode bP_boundVariable 30 = .ok (.goto 4, 3) := by decide +kernel
theorem dP_boundVariable_33 : decode bP_boundVariable 33 = .ok (.iconst 0, 1) := by decide +kernel
theorem dP_boundVariable_34 : decode bP_boundVariable 34 = .ok (.invokestatic 51, 3) := by decide +kernel
theorem dP_boundVariable_37 : decode bP_boundVariable 37 = .ok (.iload_n 2, 1) := by decide +kernel
theorem dP_boundVariable_38 : decode bP_boundVariable 38 = .ok (.ireturn, 1) := by decide +kernel
theorem dP_comparisonOfSums_0 : decode bP_comparisonOfSums 0 = .ok (.aload_n 0, 1) := by decide +kernel
theorem dP_comparisonOfSums_1 : decode bP_comparisonOfSums 1 = .ok (.iconst 0, 1) := by decide +kernel
theorem dP_comparisonOfSums_2 : decode bP_comparisonOfSums 2 = .ok (.invokevirtual 68, 3) := by decide +kernel
theorem dP_comparisonOfSums_5 : decode bP_comparisonOfSums 5 = .ok (.astore_n 2, 1) := by decide +kernel
theorem dP_comparisonOfSums_6 : decode bP_comparisonOfSums 6 = .ok (.aload_n 0, 1) := by decide +kernel
theorem dP_comparisonOfSums_7 : decode bP_comparisonOfSums 7 = .ok (.aload_n 2, 1) := by decide +kernel
theorem dP_comparisonOfSums_8 : decode bP_comparisonOfSums 8 = .ok (.iconst 1, 1) := by decide +kernel
theorem dP_comparisonOfSums_9 : decode bP_comparisonOfSums 9 = .ok (.iload_n 1, 1) := by decide +kernel
theorem dP_comparisonOfSums_10 : decode bP_comparisonOfSums 10 = .ok (.invokevirtual 129, 3) := by decide +kernel
theorem dP_comparisonOfSums_13 : decode bP_comparisonOfSums 13 = .ok (.aload_n 2, 1) := by decide +kernel
theorem dP_comparisonOfSums_14 : decode bP_comparisonOfSums 14 = .ok (.aload_n 0, 1) := by decide +kernel
theorem dP_comparisonOfSums_15 : decode bP_comparisonOfSums 15 = .ok (.invokevirtual 112, 3) := by decide +kernel
theorem dP_comparisonOfSums_18 : decode bP_comparisonOfSums 18 = .ok (.putfield 133, 3) := by decide +kernel
theorem dP_comparisonOfSums_21 : decode bP_comparisonOfSums 21 = .ok (.aload_n 2, 1) := by decide +kernel
theorem dP_comparisonOfSums_22 : decode bP_comparisonOfSums 22 = .ok (.getfield 133, 3) := by decide +kernel
theorem dP_comparisonOfSums_25 : decode bP_comparisonOfSums 25 = .ok (.bipush 60, 2) := by decide +kernel
theorem dP_comparisonOfSums_27 : decode bP_comparisonOfSums 27 = .ok (.if_icmp .eq 12, 3) := by decide +kernel
theorem dP_comparisonOfSums_30 : decode bP_comparisonOfSums 30 = .ok (.aload_n 2, 1) := by decide +kernel
theorem dP_comparisonOfSums_31 : decode bP_comparisonOfSums 31 = .ok (.getfield 133, 3) := by decide +kernel
theorem dP_comparisonOfSums_34 : decode bP_comparisonOfSums 34 = .ok (.bipush 61, 2) := by decide +kernel
theorem dP_comparisonOfSums_36 : decode bP_comparisonOfSums 36 = .ok (.if_icmp .ne 7, 3) := by decide +kernel
theorem dP_comparisonOfSums_39 : decode bP_comparisonOfSums 39 = .ok (.iconst 1, 1) := by decide +kernel
theorem dP_comparisonOfSums_40 : decode bP_comparisonOfSums 40 = .ok (.goto 4, 3) := by decide +kernel
theorem dP_comparisonOfSums_43 : decode bP_comparisonOfSums 43 = .ok (.iconst 0, 1) := by decide +kernel
theorem dP_comparisonOfSums_44 : decode bP_comparisonOfSums 44 = .ok (.invokestatic 51, 3) := by decide +kernel
theorem dP_comparisonOfSums_47 : decode bP_comparisonOfSums 47 = .ok (.aload_n 0, 1) := by decide +kernel
theorem dP_comparisonOfSums_48 : decode bP_comparisonOfSums 48 = .ok (.aload_n 2, 1) := by decide +kernel
theorem dP_comparisonOfSums_49 : decode bP_comparisonOfSums 49 = .ok (.iconst (-1), 1) := by decide +kernel
theorem dP_comparisonOfSums_50 : decode bP_comparisonOfSums 50 = .ok (.iload_n 1, 1) := by decide +kernel
theorem dP_comparisonOfSums_51 : decode bP_comparisonOfSums 51 = .ok (.invokevirtual 129, 3) := by decide +kernel
theorem dP_comparisonOfSums_54 : decode bP_comparisonOfSums 54 = .ok (.aload_n 2, 1) := by decide +kernel
theorem dP_comparisonOfSums_55 : decode bP_comparisonOfSums 55 = .ok (.areturn, 1) := by decide +kernel
section
variable {p : Program} {l : Launch} {e : Env} {R : Room} {s : State} {m : MethodId} {args : Array Value} {below : List Frame} {meth : Method} {c : Code} {G : Gx} {M0 M' : Mem} {r : Option Value ⊕ Nat} {d : Nat} {C : Cx}

def fP_take_23 (n d : Nat) (C : Cx) (x2 : Int32) (M : Mem) : Rz := if fits .boolean (.int x2) = true then (some (.inl (some (.int x2)), M)) else none
set_option maxRecDepth 100000 in
set_option maxHeartbeats 4000000 in
theorem tP_take_23 {n : Nat} (F : FX p s m meth c G R M0 d "HeadCount$Parser" bP_take 3 (some .boolean)) (hC : CBs l G d C) : ∀ (x2 : Int32) (M : Mem) (H : Heap) (locs : List Loc) (cells slots : Nat) (ls : Array Slot), fP_take_23 n d C x2 M = some (r, M') → RL G M0 M H locs cells slots → lv_has ls 3 [(2, .int x2)] → W p l e R s m args below meth c H locs cells slots (CQ G below s M0 r M') (F0 m 23 ls []) := by
  obtain ⟨hx, hb, hml, hown, hrt, hlk, hex, hK, hRm⟩ := id F
  intro x2 M H locs cells slots ls h hR hl
  unfold fP_take_23 at h
  refine lv_iload_n hx hb dP_take_23 rfl (lv_at hl 0 rfl) ?_
  obtain ⟨c_1, h⟩ := rz_chk h
  cases h
  exact rt_i hx hb hlk hrt (Or.inr (Or.inr rfl)) c_1 hR dP_take_24
def fP_take_13 (n d : Nat) (C : Cx) (a0 : Nat) (xs0 : Int32) (M : Mem) : Rz := if xs0 = 0 then (fP_take_23 n d C xs0 M) else (if mK M a0 = 2 then (rzC (C 19 [.ref a0] M) fun v_3 M_4 => (rzI v_3 fun x_7 => (fP_take_23 n d C xs0 M_4))) else none)
set_option maxRecDepth 100000 in
set_option maxHeartbeats 4000000 in
theorem tP_take_13 {n : Nat} (F : FX p s m meth c G R M0 d "HeadCount$Parser" bP_take 3 (some .boolean)) (hC : CBs l G d C) : ∀ (a0 : Nat) (xs0 : Int32) (M : Mem) (H : Heap) (locs : List Loc) (cells slots : Nat) (ls : Array Slot), fP_take_13 n d C a0 xs0 M = some (r, M') → RL G M0 M H locs cells slots → lv_has ls 3 [(0, .ref a0)] → W p l e R s m args below meth c H locs cells slots (CQ G below s M0 r M') (F0 m 13 ls [.int xs0]) := by
  obtain ⟨hx, hb, hml, hown, hrt, hlk, hex, hK, hRm⟩ := id F
  intro a0 xs0 M H locs cells slots ls h hR hl
  unfold fP_take_13 at h
  refine lv_istore_n (lv' := [(2, .int xs0), (0, .ref a0)]) hx hb dP_take_13 rfl hl (by decide) rfl (fun ls hl => ?_)
  refine lv_iload_n hx hb dP_take_14 rfl (lv_at hl 0 rfl) ?_
  refine lv_if_eq (tgt := 23) hx hb dP_take_15 (by decide) (fun c_1 => ?_) (fun c_1 => ?_)
  · replace h := rz_t c_1 h
    exact tP_take_23 F hC xs0 _ _ _ _ _ _ h hR (lv_sub hl [0] rfl)
  · replace h := rz_f c_1 h
    refine lv_aload_n hx hb dP_take_18 rfl (lv_at hl 1 rfl) ?_
    obtain ⟨c_2, h⟩ := rz_chk h
    obtain ⟨q_6, M_4, h_5, h⟩ := rz_c h
    refine rc_V (rest := []) (As := []) hx hb (hl.1.trans hml.symm) hown hK hR hRm mfP_next kl_P_112 hk_P rfl rfl c_2 (by simp [cat_rf, cat_i, cat_a, cat_l, cat_n]) (hC 19 _ _ _ _ h_5) dP_take_19 (fun v1 H locs cells slots ev hR => ?_) (fun x1 q1 ce1 H locs cells slots ex hR g1 g2 g3 => ?_)
    · rcases h with ⟨v_3, ev2, h⟩ | ⟨e2, ee2, -⟩
      · cases ev.symm.trans ev2
        replace h := rz_i h
        obtain ⟨x_7, rfl, h⟩ := h
        dsimp only [Option.toList, List.cons_append, List.nil_append]
        refine lv_pop hx hb dP_take_22 rfl ?_
        exact tP_take_23 F hC xs0 _ _ _ _ _ _ h hR (lv_sub hl [0] rfl)
      · cases ev.symm.trans ee2
    · rcases h with ⟨v2, ev2, -⟩ | ⟨e2, ee2, h⟩
      · cases ex.symm.trans ev2
      · cases ex.symm.trans ee2
        cases h
        exact rt_x hlk hex hR g1 g2 g3
def fP_take_0 (n d : Nat) (C : Cx) (a0 : Nat) (x1 : Int32) (M : Mem) : Rz := if mK M a0 = 2 then (rzC (C 17 [.ref a0] M) fun v_2 M_3 => (rzI v_2 fun x_6 => (if x_6 = x1 then (fP_take_13 n d C a0 1 M_3) else (fP_take_13 n d C a0 0 M_3)))) else none
set_option maxRecDepth 100000 in
set_option maxHeartbeats 4000000 in
theorem tP_take_0 {n : Nat} (F : FX p s m meth c G R M0 d "HeadCount$Parser" bP_take 3 (some .boolean)) (hC : CBs l G d C) : ∀ (a0 : Nat) (x1 : Int32) (M : Mem) (H : Heap) (locs : List Loc) (cells slots : Nat) (ls : Array Slot), fP_take_0 n d C a0 x1 M = some (r, M') → RL G M0 M H locs cells slots → lv_has ls 3 [(0, .ref a0), (1, .int x1)] → W p l e R s m args below meth c H locs cells slots (CQ G below s M0 r M') (F0 m 0 ls []) := by
  obtain ⟨hx, hb, hml, hown, hrt, hlk, hex, hK, hRm⟩ := id F
  intro a0 x1 M H locs cells slots ls h hR hl
  unfold fP_take_0 at h
  refine lv_aload_n hx hb dP_take_0 rfl (lv_at hl 0 rfl) ?_
  obtain ⟨c_1, h⟩ := rz_chk h
  obtain ⟨q_5, M_3, h_4, h⟩ := rz_c h
  refine rc_V (rest := []) (As := []) hx hb (hl.1.trans hml.symm) hown hK hR hRm mfP_peek kl_P_64 hk_P rfl rfl c_1 (by simp [cat_rf, cat_i, cat_a, cat_l, cat_n]) (hC 17 _ _ _ _ h_4) dP_take_1 (fun v1 H locs cells slots ev hR => ?_) (fun x1 q1 ce1 H locs cells slots ex hR g1 g2 g3 => ?_)
  · rcases h with ⟨v_2, ev2, h⟩ | ⟨e2, ee2, -⟩
    · cases ev.symm.trans ev2
      replace h := rz_i h
      obtain ⟨x_6, rfl, h⟩ := h
      dsimp only [Option.toList, List.cons_append, List.nil_append]
      refine lv_iload_n hx hb dP_take_4 rfl (lv_at hl 1 rfl) ?_
      refine lv_icmp_ne (tgt := 12) hx hb dP_take_5 (by decide) (fun c_7 => ?_) (fun c_7 => ?_)
      · replace h := rz_f c_7 h
        refine lv_iconst (v := 0) hx hb dP_take_12 (by decide) ?_
        exact tP_take_13 F hC a0 0 _ _ _ _ _ _ h hR (lv_sub hl [0] rfl)
      · replace h := rz_t c_7 h
        refine lv_iconst (v := 1) hx hb dP_take_8 (by decide) ?_
        refine lv_goto (tgt := 13) hx hb dP_take_9 (by decide) ?_
        exact tP_take_13 F hC a0 1 _ _ _ _ _ _ h hR (lv_sub hl [0] rfl)
    · cases ev.symm.trans ee2
  · rcases h with ⟨v2, ev2, -⟩ | ⟨e2, ee2, h⟩
    · cases ex.symm.trans ev2
    · cases ex.symm.trans ee2
      cases h
      exact rt_x hlk hex hR g1 g2 g3
set_option maxRecDepth 100000 in
set_option maxHeartbeats 4000000 in
theorem sP_take {l : Launch} {G : Gx} {n d : Nat} {C : Cx} (hC : CBs l G d C) (a0 : Nat) (x1 : Int32) {M M' : Mem} {r : Option Value ⊕ Nat} (h : fP_take_0 n d C a0 x1 M = some (r, M')) : CB l G (d + 1) yP_take [.ref a0, .int x1] M r M' := by
  intro p e R s m below meth c hx hn hm hc hlk hK hR hcap hS hU hfr hlo hrc hrs
  obtain ⟨hb, hml, hrt, hex, hown⟩ := fx_of hn hm hc (hK.w mfP_take.2.2.1 rfl #[])
  have F : FX p s m meth c G R M d "HeadCount$Parser" bP_take 3 (some .boolean) := ⟨hx, hb, hml, hown, hrt, hlk, hex, hK, hfr, hlo, by rw [← hcap]; exact hrc, hrs⟩
  rw [hml]
  have hl := lv_entry ([.ref a0, .int x1]) (n := 3) (by simp [lg_sl, cat_rf, cat_i, cat_a, cat_l, cat_n])
  rw [lg_entry_eq]
  generalize (lg_sl ([.ref a0, .int x1]) ++ List.replicate (3 - (lg_sl ([.ref a0, .int x1])).length) Slot.unset).toArray = ls at hl ⊢
  have hl : lv_has ls 3 [(0, .ref a0), (1, .int x1)] := by simpa [lv_args, cat_rf, cat_i, cat_a, cat_l, cat_n] using hl
  exact tP_take_0 F hC a0 x1 _ _ _ _ _ _ h (RL.start hR hcap hS hU) (lv_sub hl [0, 1] rfl)
def fP_comparisonOfSets_56 (n d : Nat) (C : Cx) (a0 : Nat) (x1 : Int32) (r2 : Option Nat) (xs0 : Int32) (as1 : Nat) (M : Mem) : Rz := if mK M as1 = 2 then (rzC (C 20 [.ref as1, .int xs0] M) fun v_2 M_3 => (rzP v_2 fun r_6 => (rzD r_6 fun a_7 => (if mK M_3 a_7 = 4 then (rzM (setP M_3 a_7 3 r2) fun M_10 => (if mK M_10 a0 = 2 then (rzC (C 13 [.ref a0, .int 43, .int x1] M_10) fun v_14 M_15 => (rzP v_14 fun r_18 => (rzD r2 fun a_19 => (if mK M_15 a_19 = 4 then (rzM (setP M_15 a_19 4 r_18) fun M_22 => (if mK M_22 a0 = 2 then (rzC (C 31 [.ref a0, .int 93] M_22) fun v_26 M_27 => (rzI v_26 fun x_30 => (rzC (C 16 [.int x_30] M_27) fun v_31 M_32 => (rzV v_31 (some (.inl (some (va_rf r_6)), M_32)))))) else none)) else none)))) else none)) else none)))) else none
set_option maxRecDepth 100000 in
set_option maxHeartbeats 4000000 in
theorem tP_comparisonOfSets_56 {n : Nat} (F : FX p s m meth c G R M0 d "HeadCount$Parser" bP_comparisonOfSets 5 (some (.object "HeadCount$Node"))) (hC : CBs l G d C) : ∀ (a0 : Nat) (x1 : Int32) (r2 : Option Nat) (xs0 : Int32) (as1 : Nat) (M : Mem) (H : Heap) (locs : List Loc) (cells slots : Nat) (ls : Array Slot), fP_comparisonOfSets_56 n d C a0 x1 r2 xs0 as1 M = some (r, M') → RL G M0 M H locs cells slots → lv_has ls 5 [(0, .ref a0), (1, .int x1), (2, va_rf r2)] → W p l e R s m args below meth c H locs cells slots (CQ G below s M0 r M') (F0 m 56 ls [.int xs0, .ref as1]) := by
  obtain ⟨hx, hb, hml, hown, hrt, hlk, hex, hK, hRm⟩ := id F
  intro a0 x1 r2 xs0 as1 M H locs cells slots ls h hR hl
  unfold fP_comparisonOfSets_56 at h
  obtain ⟨c_1, h⟩ := rz_chk h
  obtain ⟨q_5, M_3, h_4, h⟩ := rz_c h
  refine rc_V (rest := []) (As := [.int xs0]) hx hb (hl.1.trans hml.symm) hown hK hR hRm mfP_make kl_P_68 hk_P rfl rfl c_1 (by simp [cat_rf, cat_i, cat_a, cat_l, cat_n]) (hC 20 _ _ _ _ h_4) dP_comparisonOfSets_56 (fun v1 H locs cells slots ev hR => ?_) (fun x1 q1 ce1 H locs cells slots ex hR g1 g2 g3 => ?_)
  · rcases h with ⟨v_2, ev2, h⟩ | ⟨e2, ee2, -⟩
    · cases ev.symm.trans ev2
      replace h := rz_p h
      obtain ⟨r_6, rfl, h⟩ := h
      dsimp only [Option.toList, List.cons_append, List.nil_append]
      refine lr_astore (lv' := [(4, va_rf r_6), (0, .ref a0), (1, .int x1), (2, va_rf r2)]) hx hb dP_comparisonOfSets_59 hl (by decide) rfl (fun ls hl => ?_)
      refine lr_aload hx hb dP_comparisonOfSets_61 (lv_at hl 0 rfl) ?_
      refine lr_aload_n hx hb dP_comparisonOfSets_63 rfl (lv_at hl 3 rfl) ?_
      obtain ⟨a_7, e_8, h⟩ := rz_d h
      rw [e_8]
      obtain ⟨c_9, h⟩ := rz_chk h
      obtain ⟨M_10, q_11, h⟩ := rz_m h
      refine rg_putP (r := r2) hx hb hown hK hR hk_N 3 (by decide) kf_P_72 rfl rfl (ty := .object "HeadCount$Node") (by decide +kernel) (Or.inl ⟨_, rfl⟩) c_9 dP_comparisonOfSets_64 (fun H locs hR => ?_)
      rw [← q_11] at hR
      have c_12 : mK M_10 a_7 = 4 := by rw [q_11]; exact c_9
      refine lr_aload_n hx hb dP_comparisonOfSets_67 rfl (lv_at hl 3 rfl) ?_
      refine lv_aload_n hx hb dP_comparisonOfSets_68 rfl (lv_at hl 1 rfl) ?_
      refine lv_bipush (v := 43) hx hb dP_comparisonOfSets_69 (by decide) ?_
      refine lv_iload_n hx hb dP_comparisonOfSets_71 rfl (lv_at hl 2 rfl) ?_
      obtain ⟨c_13, h⟩ := rz_chk h
      obtain ⟨q_17, M_15, h_16, h⟩ := rz_c h
      refine rc_V (rest := [va_rf r2]) (As := [.int 43, .int x1]) hx hb (hl.1.trans hml.symm) hown hK hR hRm mfP_row kl_P_40 hk_P rfl rfl c_13 (by simp [cat_rf, cat_i, cat_a, cat_l, cat_n]) (hC 13 _ _ _ _ h_16) dP_comparisonOfSets_72 (fun v1 H locs cells slots ev hR => ?_) (fun x1 q1 ce1 H locs cells slots ex hR g1 g2 g3 => ?_)
      · rcases h with ⟨v_14, ev2, h⟩ | ⟨e2, ee2, -⟩
        · cases ev.symm.trans ev2
          replace h := rz_p h
          obtain ⟨r_18, rfl, h⟩ := h
          dsimp only [Option.toList, List.cons_append, List.nil_append]
          obtain ⟨a_19, e_20, h⟩ := rz_d h
          rw [e_20]
          obtain ⟨c_21, h⟩ := rz_chk h
          obtain ⟨M_22, q_23, h⟩ := rz_m h
          refine rg_putP (r := r_18) hx hb hown hK hR hk_N 4 (by decide) kf_P_80 rfl rfl (ty := .object "HeadCount$Node") (by decide +kernel) (Or.inl ⟨_, rfl⟩) c_21 dP_comparisonOfSets_75 (fun H locs hR => ?_)
          rw [← q_23] at hR
          have c_24 : mK M_22 a_19 = 4 := by rw [q_23]; exact c_21
          refine lv_aload_n hx hb dP_comparisonOfSets_78 rfl (lv_at hl 1 rfl) ?_
          refine lv_bipush (v := 93) hx hb dP_comparisonOfSets_79 (by decide) ?_
          obtain ⟨c_25, h⟩ := rz_chk h
          obtain ⟨q_29, M_27, h_28, h⟩ := rz_c h
          refine rc_V (rest := []) (As := [.int 93]) hx hb (hl.1.trans hml.symm) hown hK hR hRm mfP_take kl_P_76 hk_P rfl rfl c_25 (by simp [cat_rf, cat_i, cat_a, cat_l, cat_n]) (hC 31 _ _ _ _ h_28) dP_comparisonOfSets_81 (fun v1 H locs cells slots ev hR => ?_) (fun x1 q1 ce1 H locs cells slots ex hR g1 g2 g3 => ?_)
          · rcases h with ⟨v_26, ev2, h⟩ | ⟨e2, ee2, -⟩
            · cases ev.symm.trans ev2
              replace h := rz_i h
              obtain ⟨x_30, rfl, h⟩ := h
              dsimp only [Option.toList, List.cons_append, List.nil_append]
              obtain ⟨q_34, M_32, h_33, h⟩ := rz_c h
              refine rc_S (rest := []) (As := [.int x_30]) hx hb (hl.1.trans hml.symm) hown hK hR hRm mfP_insist kl_P_51 rfl (by simp [cat_rf, cat_i, cat_a, cat_l, cat_n]) (hC 16 _ _ _ _ h_33) dP_comparisonOfSets_84 (fun v1 H locs cells slots ev hR => ?_) (fun x1 q1 ce1 H locs cells slots ex hR g1 g2 g3 => ?_)
              · rcases h with ⟨v_31, ev2, h⟩ | ⟨e2, ee2, -⟩
                · cases ev.symm.trans ev2
                  replace h := rz_v h
                  obtain ⟨rfl, h⟩ := h
                  dsimp only [Option.toList, List.cons_append, List.nil_append]
                  refine lr_aload hx hb dP_comparisonOfSets_87 (lv_at hl 0 rfl) ?_
                  cases h
                  exact rt_a (r := r_6) hx hb hlk hrt (Or.inl ⟨_, rfl⟩) hR dP_comparisonOfSets_89
                · cases ev.symm.trans ee2
              · rcases h with ⟨v2, ev2, -⟩ | ⟨e2, ee2, h⟩
                · cases ex.symm.trans ev2
                · cases ex.symm.trans ee2
                  cases h
                  exact rt_x hlk hex hR g1 g2 g3
            · cases ev.symm.trans ee2
          · rcases h with ⟨v2, ev2, -⟩ | ⟨e2, ee2, h⟩
            · cases ex.symm.trans ev2
            · cases ex.symm.trans ee2
              cases h
              exact rt_x hlk hex hR g1 g2 g3
        · cases ev.symm.trans ee2
      · rcases h with ⟨v2, ev2, -⟩ | ⟨e2, ee2, h⟩
        · cases ex.symm.trans ev2
        · cases ex.symm.trans ee2
          cases h
          exact rt_x hlk hex hR g1 g2 g3
    · cases ev.symm.trans ee2
  · rcases h with ⟨v2, ev2, -⟩ | ⟨e2, ee2, h⟩
    · cases ex.symm.trans ev2
    · cases ex.symm.trans ee2
      cases h
      exact rt_x hlk hex hR g1 g2 g3
def fP_comparisonOfSets_39 (n d : Nat) (C : Cx) (a0 : Nat) (x1 : Int32) (r2 : Option Nat) (x3 : Int32) (xs0 : Int32) (M : Mem) : Rz := rzC (C 16 [.int xs0] M) fun v_1 M_2 => (rzV v_1 (if x3 = 60 then (fP_comparisonOfSets_56 n d C a0 x1 r2 91 a0 M_2) else (fP_comparisonOfSets_56 n d C a0 x1 r2 93 a0 M_2)))
set_option maxRecDepth 100000 in
set_option maxHeartbeats 4000000 in
theorem tP_comparisonOfSets_39 {n : Nat} (F : FX p s m meth c G R M0 d "HeadCount$Parser" bP_comparisonOfSets 5 (some (.object "HeadCount$Node"))) (hC : CBs l G d C) : ∀ (a0 : Nat) (x1 : Int32) (r2 : Option Nat) (x3 : Int32) (xs0 : Int32) (M : Mem) (H : Heap) (locs : List Loc) (cells slots : Nat) (ls : Array Slot), fP_comparisonOfSets_39 n d C a0 x1 r2 x3 xs0 M = some (r, M') → RL G M0 M H locs cells slots → lv_has ls 5 [(0, .ref a0), (1, .int x1), (2, va_rf r2), (3, .int x3)] → W p l e R s m args below meth c H locs cells slots (CQ G below s M0 r M') (F0 m 39 ls [.int xs0]) := by
  obtain ⟨hx, hb, hml, hown, hrt, hlk, hex, hK, hRm⟩ := id F
  intro a0 x1 r2 x3 xs0 M H locs cells slots ls h hR hl
  unfold fP_comparisonOfSets_39 at h
  obtain ⟨q_4, M_2, h_3, h⟩ := rz_c h
  refine rc_S (rest := []) (As := [.int xs0]) hx hb (hl.1.trans hml.symm) hown hK hR hRm mfP_insist kl_P_51 rfl (by simp [cat_rf, cat_i, cat_a, cat_l, cat_n]) (hC 16 _ _ _ _ h_3) dP_comparisonOfSets_39 (fun v1 H locs cells slots ev hR => ?_) (fun x1 q1 ce1 H locs cells slots ex hR g1 g2 g3 => ?_)
  · rcases h with ⟨v_1, ev2, h⟩ | ⟨e2, ee2, -⟩
    · cases ev.symm.trans ev2
      replace h := rz_v h
      obtain ⟨rfl, h⟩ := h
      dsimp only [Option.toList, List.cons_append, List.nil_append]
      refine lv_aload_n hx hb dP_comparisonOfSets_42 rfl (lv_at hl 0 rfl) ?_
      refine lv_iload_n hx hb dP_comparisonOfSets_43 rfl (lv_at hl 3 rfl) ?_
      refine lv_bipush (v := 60) hx hb dP_comparisonOfSets_44 (by decide) ?_
      refine lv_icmp_ne (tgt := 54) hx hb dP_comparisonOfSets_46 (by decide) (fun c_5 => ?_) (fun c_5 => ?_)
      · replace h := rz_f c_5 h
        refine lv_bipush (v := 93) hx hb dP_comparisonOfSets_54 (by decide) ?_
        exact tP_comparisonOfSets_56 F hC a0 x1 r2 93 a0 _ _ _ _ _ _ h hR (lv_sub hl [0, 1, 2] rfl)
      · replace h := rz_t c_5 h
        refine lv_bipush (v := 91) hx hb dP_comparisonOfSets_49 (by decide) ?_
        refine lv_goto (tgt := 56) hx hb dP_comparisonOfSets_51 (by decide) ?_
        exact tP_comparisonOfSets_56 F hC a0 x1 r2 91 a0 _ _ _ _ _ _ h hR (lv_sub hl [0, 1, 2] rfl)
    · cases ev.symm.trans ee2
  · rcases h with ⟨v2, ev2, -⟩ | ⟨e2, ee2, h⟩
    · cases ex.symm.trans ev2
    · cases ex.symm.trans ee2
      cases h
      exact rt_x hlk hex hR g1 g2 g3
def fP_comparisonOfSets_34 (n d : Nat) (C : Cx) (a0 : Nat) (x1 : Int32) (r2 : Option Nat) (x3 : Int32) (M : Mem) : Rz := fP_comparisonOfSets_39 n d C a0 x1 r2 x3 1 M
set_option maxRecDepth 100000 in
set_option maxHeartbeats 4000000 in
theorem tP_comparisonOfSets_34 {n : Nat} (F : FX p s m meth c G R M0 d "HeadCount$Parser" bP_comparisonOfSets 5 (some (.object "HeadCount$Node"))) (hC : CBs l G d C) : ∀ (a0 : Nat) (x1 : Int32) (r2 : Option Nat) (x3 : Int32) (M : Mem) (H : Heap) (locs : List Loc) (cells slots : Nat) (ls : Array Slot), fP_comparisonOfSets_34 n d C a0 x1 r2 x3 M = some (r, M') → RL G M0 M H locs cells slots → lv_has ls 5 [(0, .ref a0), (1, .int x1), (2, va_rf r2), (3, .int x3)] → W p l e R s m args below meth c H locs cells slots (CQ G below s M0 r M') (F0 m 34 ls []) := by
  obtain ⟨hx, hb, hml, hown, hrt, hlk, hex, hK, hRm⟩ := id F
  intro a0 x1 r2 x3 M H locs cells slots ls h hR hl
  unfold fP_comparisonOfSets_34 at h
  refine lv_iconst (v := 1) hx hb dP_comparisonOfSets_34 (by decide) ?_
  refine lv_goto (tgt := 39) hx hb dP_comparisonOfSets_35 (by decide) ?_
  exact tP_comparisonOfSets_39 F hC a0 x1 r2 x3 1 _ _ _ _ _ _ h hR (lv_sub hl [0, 1, 2, 3] rfl)
def fP_comparisonOfSets_0 (n d : Nat) (C : Cx) (a0 : Nat) (x1 : Int32) (M : Mem) : Rz := if mK M a0 = 2 then (rzC (C 31 [.ref a0, .int 91] M) fun v_2 M_3 => (rzI v_2 fun x_6 => (rzC (C 16 [.int x_6] M_3) fun v_7 M_8 => (rzV v_7 (if mK M_8 a0 = 2 then (rzC (C 13 [.ref a0, .int 43, .int x1] M_8) fun v_12 M_13 => (rzP v_12 fun r_16 => (if mK M_13 a0 = 2 then (rzC (C 19 [.ref a0] M_13) fun v_18 M_19 => (rzI v_18 fun x_22 => (if x_22 = 60 then (fP_comparisonOfSets_34 n d C a0 x1 r_16 x_22 M_19) else (if x_22 = 61 then (fP_comparisonOfSets_34 n d C a0 x1 r_16 x_22 M_19) else (fP_comparisonOfSets_39 n d C a0 x1 r_16 x_22 0 M_19))))) else none))) else none))))) else none
set_option maxRecDepth 100000 in
set_option maxHeartbeats 4000000 in
theorem tP_comparisonOfSets_0 {n : Nat} (F : FX p s m meth c G R M0 d "HeadCount$Parser" bP_comparisonOfSets 5 (some (.object "HeadCount$Node"))) (hC : CBs l G d C) : ∀ (a0 : Nat) (x1 : Int32) (M : Mem) (H : Heap) (locs : List Loc) (cells slots : Nat) (ls : Array Slot), fP_comparisonOfSets_0 n d C a0 x1 M = some (r, M') → RL G M0 M H locs cells slots → lv_has ls 5 [(0, .ref a0), (1, .int x1)] → W p l e R s m args below meth c H locs cells slots (CQ G below s M0 r M') (F0 m 0 ls []) := by
  obtain ⟨hx, hb, hml, hown, hrt, hlk, hex, hK, hRm⟩ := id F
  intro a0 x1 M H locs cells slots ls h hR hl
  unfold fP_comparisonOfSets_0 at h
  refine lv_aload_n hx hb dP_comparisonOfSets_0 rfl (lv_at hl 0 rfl) ?_
  refine lv_bipush (v := 91) hx hb dP_comparisonOfSets_1 (by decide) ?_
  obtain ⟨c_1, h⟩ := rz_chk h
  obtain ⟨q_5, M_3, h_4, h⟩ := rz_c h
  refine rc_V (rest := []) (As := [.int 91]) hx hb (hl.1.trans hml.symm) hown hK hR hRm mfP_take kl_P_76 hk_P rfl rfl c_1 (by simp [cat_rf, cat_i, cat_a, cat_l, cat_n]) (hC 31 _ _ _ _ h_4) dP_comparisonOfSets_3 (fun v1 H locs cells slots ev hR => ?_) (fun x1 q1 ce1 H locs cells slots ex hR g1 g2 g3 => ?_)
  · rcases h with ⟨v_2, ev2, h⟩ | ⟨e2, ee2, -⟩
    · cases ev.symm.trans ev2
      replace h := rz_i h
      obtain ⟨x_6, rfl, h⟩ := h
      dsimp only [Option.toList, List.cons_append, List.nil_append]
      obtain ⟨q_10, M_8, h_9, h⟩ := rz_c h
      refine rc_S (rest := []) (As := [.int x_6]) hx hb (hl.1.trans hml.symm) hown hK hR hRm mfP_insist kl_P_51 rfl (by simp [cat_rf, cat_i, cat_a, cat_l, cat_n]) (hC 16 _ _ _ _ h_9) dP_comparisonOfSets_6 (fun v1 H locs cells slots ev hR => ?_) (fun x1 q1 ce1 H locs cells slots ex hR g1 g2 g3 => ?_)
      · rcases h with ⟨v_7, ev2, h⟩ | ⟨e2, ee2, -⟩
        · cases ev.symm.trans ev2
          replace h := rz_v h
          obtain ⟨rfl, h⟩ := h
          dsimp only [Option.toList, List.cons_append, List.nil_append]
          refine lv_aload_n hx hb dP_comparisonOfSets_9 rfl (lv_at hl 0 rfl) ?_
          refine lv_bipush (v := 43) hx hb dP_comparisonOfSets_10 (by decide) ?_
          refine lv_iload_n hx hb dP_comparisonOfSets_12 rfl (lv_at hl 1 rfl) ?_
          obtain ⟨c_11, h⟩ := rz_chk h
          obtain ⟨q_15, M_13, h_14, h⟩ := rz_c h
          refine rc_V (rest := []) (As := [.int 43, .int x1]) hx hb (hl.1.trans hml.symm) hown hK hR hRm mfP_row kl_P_40 hk_P rfl rfl c_11 (by simp [cat_rf, cat_i, cat_a, cat_l, cat_n]) (hC 13 _ _ _ _ h_14) dP_comparisonOfSets_13 (fun v1 H locs cells slots ev hR => ?_) (fun x1 q1 ce1 H locs cells slots ex hR g1 g2 g3 => ?_)
          · rcases h with ⟨v_12, ev2, h⟩ | ⟨e2, ee2, -⟩
            · cases ev.symm.trans ev2
              replace h := rz_p h
              obtain ⟨r_16, rfl, h⟩ := h
              dsimp only [Option.toList, List.cons_append, List.nil_append]
              refine lr_astore_n (lv' := [(2, va_rf r_16), (0, .ref a0), (1, .int x1)]) hx hb dP_comparisonOfSets_16 rfl hl (by decide) rfl (fun ls hl => ?_)
              refine lv_aload_n hx hb dP_comparisonOfSets_17 rfl (lv_at hl 1 rfl) ?_
              obtain ⟨c_17, h⟩ := rz_chk h
              obtain ⟨q_21, M_19, h_20, h⟩ := rz_c h
              refine rc_V (rest := []) (As := []) hx hb (hl.1.trans hml.symm) hown hK hR hRm mfP_next kl_P_112 hk_P rfl rfl c_17 (by simp [cat_rf, cat_i, cat_a, cat_l, cat_n]) (hC 19 _ _ _ _ h_20) dP_comparisonOfSets_18 (fun v1 H locs cells slots ev hR => ?_) (fun x1 q1 ce1 H locs cells slots ex hR g1 g2 g3 => ?_)
              · rcases h with ⟨v_18, ev2, h⟩ | ⟨e2, ee2, -⟩
                · cases ev.symm.trans ev2
                  replace h := rz_i h
                  obtain ⟨x_22, rfl, h⟩ := h
                  dsimp only [Option.toList, List.cons_append, List.nil_append]
                  refine lv_istore_n (lv' := [(3, .int x_22), (2, va_rf r_16), (0, .ref a0), (1, .int x1)]) hx hb dP_comparisonOfSets_21 rfl hl (by decide) (by first | (simp [cat_rf, cat_i, cat_a, cat_l, cat_n]; done) | (simp [cat_rf, cat_i, cat_a, cat_l, cat_n]; decide)) (fun ls hl => ?_)
                  refine lv_iload_n hx hb dP_comparisonOfSets_22 rfl (lv_at hl 0 rfl) ?_
                  refine lv_bipush (v := 60) hx hb dP_comparisonOfSets_23 (by decide) ?_
                  refine lv_icmp_eq (tgt := 34) hx hb dP_comparisonOfSets_25 (by decide) (fun c_23 => ?_) (fun c_23 => ?_)
                  · replace h := rz_t c_23 h
                    exact tP_comparisonOfSets_34 F hC a0 x1 r_16 x_22 _ _ _ _ _ _ h hR (lv_sub hl [2, 3, 1, 0] rfl)
                  · replace h := rz_f c_23 h
                    refine lv_iload_n hx hb dP_comparisonOfSets_28 rfl (lv_at hl 0 rfl) ?_
                    refine lv_bipush (v := 61) hx hb dP_comparisonOfSets_29 (by decide) ?_
                    refine lv_icmp_ne (tgt := 38) hx hb dP_comparisonOfSets_31 (by decide) (fun c_24 => ?_) (fun c_24 => ?_)
                    · replace h := rz_f c_24 h
                      refine lv_iconst (v := 0) hx hb dP_comparisonOfSets_38 (by decide) ?_
                      exact tP_comparisonOfSets_39 F hC a0 x1 r_16 x_22 0 _ _ _ _ _ _ h hR (lv_sub hl [2, 3, 1, 0] rfl)
                    · replace h := rz_t c_24 h
                      exact tP_comparisonOfSets_34 F hC a0 x1 r_16 x_22 _ _ _ _ _ _ h hR (lv_sub hl [2, 3, 1, 0] rfl)
                · cases ev.symm.trans ee2
              · rcases h with ⟨v2, ev2, -⟩ | ⟨e2, ee2, h⟩
                · cases ex.symm.trans ev2
                · cases ex.symm.trans ee2
                  cases h
                  exact rt_x hlk hex hR g1 g2 g3
            · cases ev.symm.trans ee2
          · rcases h with ⟨v2, ev2, -⟩ | ⟨e2, ee2, h⟩
            · cases ex.symm.trans ev2
            · cases ex.symm.trans ee2
              cases h
              exact rt_x hlk hex hR g1 g2 g3
        · cases ev.symm.trans ee2
      · rcases h with ⟨v2, ev2, -⟩ | ⟨e2, ee2, h⟩
        · cases ex.symm.trans ev2
        · cases ex.symm.trans ee2
          cases h
          exact rt_x hlk hex hR g1 g2 g3
    · cases ev.symm.trans ee2
  · rcases h with ⟨v2, ev2, -⟩ | ⟨e2, ee2, h⟩
    · cases ex.symm.trans ev2
    · cases ex.symm.trans ee2
      cases h
      exact rt_x hlk hex hR g1 g2 g3
set_option maxRecDepth 100000 in
set_option maxHeartbeats 4000000 in
theorem sP_comparisonOfSets {l : Launch} {G : Gx} {n d : Nat} {C : Cx} (hC : CBs l G d C) (a0 : Nat) (x1 : Int32) {M M' : Mem} {r : Option Value ⊕ Nat} (h : fP_comparisonOfSets_0 n d C a0 x1 M = some (r, M')) : CB l G (d + 1) yP_comparisonOfSets [.ref a0, .int x1] M r M' := by
  intro p e R s m below meth c hx hn hm hc hlk hK hR hcap hS hU hfr hlo hrc hrs
  obtain ⟨hb, hml, hrt, hex, hown⟩ := fx_of hn hm hc (hK.w mfP_comparisonOfSets.2.2.1 rfl #[])
  have F : FX p s m meth c G R M d "HeadCount$Parser" bP_comparisonOfSets 5 (some (.object "HeadCount$Node")) := ⟨hx, hb, hml, hown, hrt, hlk, hex, hK, hfr, hlo, by rw [← hcap]; exact hrc, hrs⟩
  rw [hml]
  have hl := lv_entry ([.ref a0, .int x1]) (n := 5) (by simp [lg_sl, cat_rf, cat_i, cat_a, cat_l, cat_n])
  rw [lg_entry_eq]
  generalize (lg_sl ([.ref a0, .int x1]) ++ List.replicate (5 - (lg_sl ([.ref a0, .int x1])).length) Slot.unset).toArray = ls at hl ⊢
  have hl : lv_has ls 5 [(0, .ref a0), (1, .int x1)] := by simpa [lv_args, cat_rf, cat_i, cat_a, cat_l, cat_n] using hl
  exact tP_comparisonOfSets_0 F hC a0 x1 _ _ _ _ _ _ h (RL.start hR hcap hS hU) (lv_sub hl [0, 1] rfl)
def fP_startsWithDivisor_36 (n d : Nat) (C : Cx) (a0 : Nat) (x1 : Int32) (xs0 : Int32) (M : Mem) : Rz := if mK M a0 = 2 then (rzM (setI M a0 2 x1) fun M_2 => (if fits .boolean (.int xs0) = true then (some (.inl (some (.int xs0)), M_2)) else none)) else none
set_option maxRecDepth 100000 in
set_option maxHeartbeats 4000000 in
theorem tP_startsWithDivisor_36 {n : Nat} (F : FX p s m meth c G R M0 d "HeadCount$Parser" bP_startsWithDivisor 3 (some .boolean)) (hC : CBs l G d C) : ∀ (a0 : Nat) (x1 : Int32) (xs0 : Int32) (M : Mem) (H : Heap) (locs : List Loc) (cells slots : Nat) (ls : Array Slot), fP_startsWithDivisor_36 n d C a0 x1 xs0 M = some (r, M') → RL G M0 M H locs cells slots → lv_has ls 3 [(0, .ref a0), (1, .int x1)] → W p l e R s m args below meth c H locs cells slots (CQ G below s M0 r M') (F0 m 36 ls [.int xs0]) := by
  obtain ⟨hx, hb, hml, hown, hrt, hlk, hex, hK, hRm⟩ := id F
  intro a0 x1 xs0 M H locs cells slots ls h hR hl
  unfold fP_startsWithDivisor_36 at h
  refine lv_istore_n (lv' := [(2, .int xs0), (0, .ref a0), (1, .int x1)]) hx hb dP_startsWithDivisor_36 rfl hl (by decide) rfl (fun ls hl => ?_)
  refine lv_aload_n hx hb dP_startsWithDivisor_37 rfl (lv_at hl 1 rfl) ?_
  refine lv_iload_n hx hb dP_startsWithDivisor_38 rfl (lv_at hl 2 rfl) ?_
  obtain ⟨c_1, h⟩ := rz_chk h
  obtain ⟨M_2, q_3, h⟩ := rz_m h
  refine rg_putI hx hb hown hK hR hk_P 2 (by decide) kf_P_44 rfl rfl (ty := .int) (by decide +kernel) (Or.inl rfl) rfl c_1 dP_startsWithDivisor_39 (fun H locs hR => ?_)
  rw [← q_3] at hR
  have c_4 : mK M_2 a0 = 2 := by rw [q_3]; exact c_1
  refine lv_iload_n hx hb dP_startsWithDivisor_42 rfl (lv_at hl 0 rfl) ?_
  obtain ⟨c_5, h⟩ := rz_chk h
  cases h
  exact rt_i hx hb hlk hrt (Or.inr (Or.inr rfl)) c_5 hR dP_startsWithDivisor_43
def fP_startsWithDivisor_0 (n d : Nat) (C : Cx) (a0 : Nat) (M : Mem) : Rz := if mK M a0 = 2 then (rzC (C 17 [.ref a0] M) fun v_2 M_3 => (rzI v_2 fun x_6 => (rzC (C 34 [.int x_6] M_3) fun v_7 M_8 => (rzI v_7 fun x_11 => (if x_11 = 0 then (if fits .boolean (.int 0) = true then (some (.inl (some (.int 0)), M_8)) else none) else (if mK M_8 a0 = 2 then (rzC (C 35 [.ref a0] M_8) fun v_14 M_15 => (rzI v_14 fun x_18 => (if mK M_15 a0 = 2 then (rzC (C 17 [.ref a0] M_15) fun v_20 M_21 => (rzI v_20 fun x_24 => (if x_24 = 58 then (fP_startsWithDivisor_36 n d C a0 (mI M_8 a0 2) 1 M_21) else (fP_startsWithDivisor_36 n d C a0 (mI M_8 a0 2) 0 M_21)))) else none))) else none)))))) else none
set_option maxRecDepth 100000 in
set_option maxHeartbeats 4000000 in
theorem tP_startsWithDivisor_0 {n : Nat} (F : FX p s m meth c G R M0 d "HeadCount$Parser" bP_startsWithDivisor 3 (some .boolean)) (hC : CBs l G d C) : ∀ (a0 : Nat) (M : Mem) (H : Heap) (locs : List Loc) (cells slots : Nat) (ls : Array Slot), fP_startsWithDivisor_0 n d C a0 M = some (r, M') → RL G M0 M H locs cells slots → lv_has ls 3 [(0, .ref a0)] → W p l e R s m args below meth c H locs cells slots (CQ G below s M0 r M') (F0 m 0 ls []) := by
  obtain ⟨hx, hb, hml, hown, hrt, hlk, hex, hK, hRm⟩ := id F
  intro a0 M H locs cells slots ls h hR hl
  unfold fP_startsWithDivisor_0 at h
  refine lv_aload_n hx hb dP_startsWithDivisor_0 rfl (lv_at hl 0 rfl) ?_
  obtain ⟨c_1, h⟩ := rz_chk h
  obtain ⟨q_5, M_3, h_4, h⟩ := rz_c h
  refine rc_V (rest := []) (As := []) hx hb (hl.1.trans hml.symm) hown hK hR hRm mfP_peek kl_P_64 hk_P rfl rfl c_1 (by simp [cat_rf, cat_i, cat_a, cat_l, cat_n]) (hC 17 _ _ _ _ h_4) dP_startsWithDivisor_1 (fun v1 H locs cells slots ev hR => ?_) (fun x1 q1 ce1 H locs cells slots ex hR g1 g2 g3 => ?_)
  · rcases h with ⟨v_2, ev2, h⟩ | ⟨e2, ee2, -⟩
    · cases ev.symm.trans ev2
      replace h := rz_i h
      obtain ⟨x_6, rfl, h⟩ := h
      dsimp only [Option.toList, List.cons_append, List.nil_append]
      obtain ⟨q_10, M_8, h_9, h⟩ := rz_c h
      refine rc_S (rest := []) (As := [.int x_6]) hx hb (hl.1.trans hml.symm) hown hK hR hRm mfP_isDecimal kl_P_121 rfl (by simp [cat_rf, cat_i, cat_a, cat_l, cat_n]) (hC 34 _ _ _ _ h_9) dP_startsWithDivisor_4 (fun v1 H locs cells slots ev hR => ?_) (fun x1 q1 ce1 H locs cells slots ex hR g1 g2 g3 => ?_)
      · rcases h with ⟨v_7, ev2, h⟩ | ⟨e2, ee2, -⟩
        · cases ev.symm.trans ev2
          replace h := rz_i h
          obtain ⟨x_11, rfl, h⟩ := h
          dsimp only [Option.toList, List.cons_append, List.nil_append]
          refine lv_if_ne (tgt := 12) hx hb dP_startsWithDivisor_7 (by decide) (fun c_12 => ?_) (fun c_12 => ?_)
          · replace h := rz_f c_12 h
            refine lv_aload_n hx hb dP_startsWithDivisor_12 rfl (lv_at hl 0 rfl) ?_
            obtain ⟨c_13, h⟩ := rz_chk h
            refine rg_getI hx hb hown hK hR hk_P 2 (by decide) kf_P_44 rfl c_13 dP_startsWithDivisor_13 ?_
            refine lv_istore_n (lv' := [(1, .int (mI M_8 a0 2)), (0, .ref a0)]) hx hb dP_startsWithDivisor_16 rfl hl (by decide) rfl (fun ls hl => ?_)
            refine lv_aload_n hx hb dP_startsWithDivisor_17 rfl (lv_at hl 1 rfl) ?_
            obtain ⟨q_17, M_15, h_16, h⟩ := rz_c h
            refine rc_V (rest := []) (As := []) hx hb (hl.1.trans hml.symm) hown hK hR hRm mfP_number kl_P_124 hk_P rfl rfl c_13 (by simp [cat_rf, cat_i, cat_a, cat_l, cat_n]) (hC 35 _ _ _ _ h_16) dP_startsWithDivisor_18 (fun v1 H locs cells slots ev hR => ?_) (fun x1 q1 ce1 H locs cells slots ex hR g1 g2 g3 => ?_)
            · rcases h with ⟨v_14, ev2, h⟩ | ⟨e2, ee2, -⟩
              · cases ev.symm.trans ev2
                replace h := rz_i h
                obtain ⟨x_18, rfl, h⟩ := h
                dsimp only [Option.toList, List.cons_append, List.nil_append]
                refine lv_pop hx hb dP_startsWithDivisor_21 rfl ?_
                refine lv_aload_n hx hb dP_startsWithDivisor_22 rfl (lv_at hl 1 rfl) ?_
                obtain ⟨c_19, h⟩ := rz_chk h
                obtain ⟨q_23, M_21, h_22, h⟩ := rz_c h
                refine rc_V (rest := []) (As := []) hx hb (hl.1.trans hml.symm) hown hK hR hRm mfP_peek kl_P_64 hk_P rfl rfl c_19 (by simp [cat_rf, cat_i, cat_a, cat_l, cat_n]) (hC 17 _ _ _ _ h_22) dP_startsWithDivisor_23 (fun v1 H locs cells slots ev hR => ?_) (fun x1 q1 ce1 H locs cells slots ex hR g1 g2 g3 => ?_)
                · rcases h with ⟨v_20, ev2, h⟩ | ⟨e2, ee2, -⟩
                  · cases ev.symm.trans ev2
                    replace h := rz_i h
                    obtain ⟨x_24, rfl, h⟩ := h
                    dsimp only [Option.toList, List.cons_append, List.nil_append]
                    refine lv_bipush (v := 58) hx hb dP_startsWithDivisor_26 (by decide) ?_
                    refine lv_icmp_ne (tgt := 35) hx hb dP_startsWithDivisor_28 (by decide) (fun c_25 => ?_) (fun c_25 => ?_)
                    · replace h := rz_f c_25 h
                      refine lv_iconst (v := 0) hx hb dP_startsWithDivisor_35 (by decide) ?_
                      exact tP_startsWithDivisor_36 F hC a0 (mI M_8 a0 2) 0 _ _ _ _ _ _ h hR (lv_sub hl [1, 0] rfl)
                    · replace h := rz_t c_25 h
                      refine lv_iconst (v := 1) hx hb dP_startsWithDivisor_31 (by decide) ?_
                      refine lv_goto (tgt := 36) hx hb dP_startsWithDivisor_32 (by decide) ?_
                      exact tP_startsWithDivisor_36 F hC a0 (mI M_8 a0 2) 1 _ _ _ _ _ _ h hR (lv_sub hl [1, 0] rfl)
                  · cases ev.symm.trans ee2
                · rcases h with ⟨v2, ev2, -⟩ | ⟨e2, ee2, h⟩
                  · cases ex.symm.trans ev2
                  · cases ex.symm.trans ee2
                    cases h
                    exact rt_x hlk hex hR g1 g2 g3
              · cases ev.symm.trans ee2
            · rcases h with ⟨v2, ev2, -⟩ | ⟨e2, ee2, h⟩
              · cases ex.symm.trans ev2
              · cases ex.symm.trans ee2
                cases h
                exact rt_x hlk hex hR g1 g2 g3
          · replace h := rz_t c_12 h
            refine lv_iconst (v := 0) hx hb dP_startsWithDivisor_10 (by decide) ?_
            obtain ⟨c_26, h⟩ := rz_chk h
            cases h
            exact rt_i hx hb hlk hrt (Or.inr (Or.inr rfl)) c_26 hR dP_startsWithDivisor_11
        · cases ev.symm.trans ee2
      · rcases h with ⟨v2, ev2, -⟩ | ⟨e2, ee2, h⟩
        · cases ex.symm.trans ev2
        · cases ex.symm.trans ee2
          cases h
          exact rt_x hlk hex hR g1 g2 g3
    · cases ev.symm.trans ee2
  · rcases h with ⟨v2, ev2, -⟩ | ⟨e2, ee2, h⟩
    · cases ex.symm.trans ev2
    · cases ex.symm.trans ee2
      cases h
      exact rt_x hlk hex hR g1 g2 g3
set_option maxRecDepth 100000 in
set_option maxHeartbeats 4000000 in
theorem sP_startsWithDivisor {l : Launch} {G : Gx} {n d : Nat} {C : Cx} (hC : CBs l G d C) (a0 : Nat) {M M' : Mem} {r : Option Value ⊕ Nat} (h : fP_startsWithDivisor_0 n d C a0 M = some (r, M')) : CB l G (d + 1) yP_startsWithDivisor [.ref a0] M r M' := by
  intro p e R s m below meth c hx hn hm hc hlk hK hR hcap hS hU hfr hlo hrc hrs
  obtain ⟨hb, hml, hrt, hex, hown⟩ := fx_of hn hm hc (hK.w mfP_startsWithDivisor.2.2.1 rfl #[])
  have F : FX p s m meth c G R M d "HeadCount$Parser" bP_startsWithDivisor 3 (some .boolean) := ⟨hx, hb, hml, hown, hrt, hlk, hex, hK, hfr, hlo, by rw [← hcap]; exact hrc, hrs⟩
  rw [hml]
  have hl := lv_entry ([.ref a0]) (n := 3) (by simp [lg_sl, cat_rf, cat_i, cat_a, cat_l, cat_n])
  rw [lg_entry_eq]
  generalize (lg_sl ([.ref a0]) ++ List.replicate (3 - (lg_sl ([.ref a0])).length) Slot.unset).toArray = ls at hl ⊢
  have hl : lv_has ls 3 [(0, .ref a0)] := by simpa [lv_args, cat_rf, cat_i, cat_a, cat_l, cat_n] using hl
  exact tP_startsWithDivisor_0 F hC a0 _ _ _ _ _ _ h (RL.start hR hcap hS hU) (lv_sub hl [0] rfl)
def fP_isDecimal_17 (n d : Nat) (C : Cx) (xs0 : Int32) (M : Mem) : Rz := if fits .boolean (.int xs0) = true then (some (.inl (some (.int xs0)), M)) else none
set_option maxRecDepth 100000 in
set_option maxHeartbeats 4000000 in
theorem tP_isDecimal_17 {n : Nat} (F : FX p s m meth c G R M0 d "HeadCount$Parser" bP_isDecimal 1 (some .boolean)) (hC : CBs l G d C) : ∀ (xs0 : Int32) (M : Mem) (H : Heap) (locs : List Loc) (cells slots : Nat) (ls : Array Slot), fP_isDecimal_17 n d C xs0 M = some (r, M') → RL G M0 M H locs cells slots → lv_has ls 1 [] → W p l e R s m args below meth c H locs cells slots (CQ G below s M0 r M') (F0 m 17 ls [.int xs0]) := by
  obtain ⟨hx, hb, hml, hown, hrt, hlk, hex, hK, hRm⟩ := id F
  intro xs0 M H locs cells slots ls h hR hl
  unfold fP_isDecimal_17 at h
  obtain ⟨c_1, h⟩ := rz_chk h
  cases h
  exact rt_i hx hb hlk hrt (Or.inr (Or.inr rfl)) c_1 hR dP_isDecimal_17
def fP_isDecimal_16 (n d : Nat) (C : Cx) (M : Mem) : Rz := fP_isDecimal_17 n d C 0 M
set_option maxRecDepth 100000 in
set_option maxHeartbeats 4000000 in
theorem tP_isDecimal_16 {n : Nat} (F : FX p s m meth c G R M0 d "HeadCount$Parser" bP_isDecimal 1 (some .boolean)) (hC : CBs l G d C) : ∀ (M : Mem) (H : Heap) (locs : List Loc) (cells slots : Nat) (ls : Array Slot), fP_isDecimal_16 n d C M = some (r, M') → RL G M0 M H locs cells slots → lv_has ls 1 [] → W p l e R s m args below meth c H locs cells slots (CQ G below s M0 r M') (F0 m 16 ls []) := by
  obtain ⟨hx, hb, hml, hown, hrt, hlk, hex, hK, hRm⟩ := id F
  intro M H locs cells slots ls h hR hl
  unfold fP_isDecimal_16 at h
  refine lv_iconst (v := 0) hx hb dP_isDecimal_16 (by decide) ?_
  exact tP_isDecimal_17 F hC 0 _ _ _ _ _ _ h hR (lv_sub hl [] rfl)
def fP_isDecimal_0 (n d : Nat) (C : Cx) (x0 : Int32) (M : Mem) : Rz := if x0 < 48 then (fP_isDecimal_16 n d C M) else (if 57 < x0 then (fP_isDecimal_16 n d C M) else (fP_isDecimal_17 n d C 1 M))
set_option maxRecDepth 100000 in
set_option maxHeartbeats 4000000 in
theorem tP_isDecimal_0 {n : Nat} (F : FX p s m meth c G R M0 d "HeadCount$Parser" bP_isDecimal 1 (some .boolean)) (hC : CBs l G d C) : ∀ (x0 : Int32) (M : Mem) (H : Heap) (locs : List Loc) (cells slots : Nat) (ls : Array Slot), fP_isDecimal_0 n d C x0 M = some (r, M') → RL G M0 M H locs cells slots → lv_has ls 1 [(0, .int x0)] → W p l e R s m args below meth c H locs cells slots (CQ G below s M0 r M') (F0 m 0 ls []) := by
  obtain ⟨hx, hb, hml, hown, hrt, hlk, hex, hK, hRm⟩ := id F
  intro x0 M H locs cells slots ls h hR hl
  unfold fP_isDecimal_0 at h
  refine lv_iload_n hx hb dP_isDecimal_0 rfl (lv_at hl 0 rfl) ?_
  refine lv_bipush (v := 48) hx hb dP_isDecimal_1 (by decide) ?_
  refine lv_icmp_lt (tgt := 16) hx hb dP_isDecimal_3 (by decide) (fun c_1 => ?_) (fun c_1 => ?_)
  · replace h := rz_t c_1 h
    exact tP_isDecimal_16 F hC _ _ _ _ _ _ h hR (lv_sub hl [] rfl)
  · replace h := rz_f c_1 h
    refine lv_iload_n hx hb dP_isDecimal_6 rfl (lv_at hl 0 rfl) ?_
    refine lv_bipush (v := 57) hx hb dP_isDecimal_7 (by decide) ?_
    refine lv_icmp_gt (tgt := 16) hx hb dP_isDecimal_9 (by decide) (fun c_2 => ?_) (fun c_2 => ?_)
    · replace h := rz_t c_2 h
      exact tP_isDecimal_16 F hC _ _ _ _ _ _ h hR (lv_sub hl [] rfl)
    · replace h := rz_f c_2 h
      refine lv_iconst (v := 1) hx hb dP_isDecimal_12 (by decide) ?_
      refine lv_goto (tgt := 17) hx hb dP_isDecimal_13 (by decide) ?_
      exact tP_isDecimal_17 F hC 1 _ _ _ _ _ _ h hR (lv_sub hl [] rfl)
set_option maxRecDepth 100000 in
set_option maxHeartbeats 4000000 in
theorem sP_isDecimal {l : Launch} {G : Gx} {n d : Nat} {C : Cx} (hC : CBs l G d C) (x0 : Int32) {M M' : Mem} {r : Option Value ⊕ Nat} (h : fP_isDecimal_0 n d C x0 M = some (r, M')) : CB l G (d + 1) yP_isDecimal [.int x0] M r M' := by
  intro p e R s m below meth c hx hn hm hc hlk hK hR hcap hS hU hfr hlo hrc hrs
  obtain ⟨hb, hml, hrt, hex, hown⟩ := fx_of hn hm hc (hK.w mfP_isDecimal.2.2.1 rfl #[])
  have F : FX p s m meth c G R M d "HeadCount$Parser" bP_isDecimal 1 (some .boolean) := ⟨hx, hb, hml, hown, hrt, hlk, hex, hK, hfr, hlo, by rw [← hcap]; exact hrc, hrs⟩
  rw [hml]
  have hl := lv_entry ([.int x0]) (n := 1) (by simp [lg_sl, cat_rf, cat_i, cat_a, cat_l, cat_n])
  rw [lg_entry_eq]
  generalize (lg_sl ([.int x0]) ++ List.replicate (1 - (lg_sl ([.int x0])).length) Slot.unset).toArray = ls at hl ⊢
  have hl : lv_has ls 1 [(0, .int x0)] := by simpa [lv_args, cat_rf, cat_i, cat_a, cat_l, cat_n] using hl
  exact tP_isDecimal_0 F hC x0 _ _ _ _ _ _ h (RL.start hR hcap hS hU) (lv_sub hl [0] rfl)
def fP_number_57 (n d : Nat) (C : Cx) (x1 : Int32) (xs0 : Int32) (M : Mem) : Rz := rzC (C 16 [.int xs0] M) fun v_1 M_2 => (rzV v_1 (some (.inl (some (.int x1)), M_2)))
set_option maxRecDepth 100000 in
set_option maxHeartbeats 4000000 in
theorem tP_number_57 {n : Nat} (F : FX p s m meth c G R M0 d "HeadCount$Parser" bP_number 3 (some .int)) (hC : CBs l G d C) : ∀ (x1 : Int32) (xs0 : Int32) (M : Mem) (H : Heap) (locs : List Loc) (cells slots : Nat) (ls : Array Slot), fP_number_57 n d C x1 xs0 M = some (r, M') → RL G M0 M H locs cells slots → lv_has ls 3 [(1, .int x1)] → W p l e R s m args below meth c H locs cells slots (CQ G below s M0 r M') (F0 m 57 ls [.int xs0]) := by
  obtain ⟨hx, hb, hml, hown, hrt, hlk, hex, hK, hRm⟩ := id F
  intro x1 xs0 M H locs cells slots ls h hR hl
  unfold fP_number_57 at h
  obtain ⟨q_4, M_2, h_3, h⟩ := rz_c h
  refine rc_S (rest := []) (As := [.int xs0]) hx hb (hl.1.trans hml.symm) hown hK hR hRm mfP_insist kl_P_51 rfl (by simp [cat_rf, cat_i, cat_a, cat_l, cat_n]) (hC 16 _ _ _ _ h_3) dP_number_57 (fun v1 H locs cells slots ev hR => ?_) (fun x1 q1 ce1 H locs cells slots ex hR g1 g2 g3 => ?_)
  · rcases h with ⟨v_1, ev2, h⟩ | ⟨e2, ee2, -⟩
    · cases ev.symm.trans ev2
      replace h := rz_v h
      obtain ⟨rfl, h⟩ := h
      dsimp only [Option.toList, List.cons_append, List.nil_append]
      refine lv_iload_n hx hb dP_number_60 rfl (lv_at hl 0 rfl) ?_
      cases h
      exact rt_i hx hb hlk hrt (Or.inl rfl) rfl hR dP_number_61
    · cases ev.symm.trans ee2
  · rcases h with ⟨v2, ev2, -⟩ | ⟨e2, ee2, h⟩
    · cases ex.symm.trans ev2
    · cases ex.symm.trans ee2
      cases h
      exact rt_x hlk hex hR g1 g2 g3
def fP_number_56 (n d : Nat) (C : Cx) (x1 : Int32) (M : Mem) : Rz := fP_number_57 n d C x1 0 M
set_option maxRecDepth 100000 in
set_option maxHeartbeats 4000000 in
theorem tP_number_56 {n : Nat} (F : FX p s m meth c G R M0 d "HeadCount$Parser" bP_number 3 (some .int)) (hC : CBs l G d C) : ∀ (x1 : Int32) (M : Mem) (H : Heap) (locs : List Loc) (cells slots : Nat) (ls : Array Slot), fP_number_56 n d C x1 M = some (r, M') → RL G M0 M H locs cells slots → lv_has ls 3 [(1, .int x1)] → W p l e R s m args below meth c H locs cells slots (CQ G below s M0 r M') (F0 m 56 ls []) := by
  obtain ⟨hx, hb, hml, hown, hrt, hlk, hex, hK, hRm⟩ := id F
  intro x1 M H locs cells slots ls h hR hl
  unfold fP_number_56 at h
  refine lv_iconst (v := 0) hx hb dP_number_56 (by decide) ?_
  exact tP_number_57 F hC x1 0 _ _ _ _ _ _ h hR (lv_sub hl [0] rfl)
def fP_number_38 (n d : Nat) (C : Cx) (a0 : Nat) (x1 : Int32) (x2 : Int32) (M : Mem) : Rz := if x2 ≤ 0 then (fP_number_56 n d C x1 M) else (if mK M a0 = 2 then (rzC (C 17 [.ref a0] M) fun v_3 M_4 => (rzI v_3 fun x_7 => (rzC (C 34 [.int x_7] M_4) fun v_8 M_9 => (rzI v_8 fun x_12 => (if x_12 = 0 then (fP_number_57 n d C x1 1 M_9) else (fP_number_56 n d C x1 M_9)))))) else none)
set_option maxRecDepth 100000 in
set_option maxHeartbeats 4000000 in
theorem tP_number_38 {n : Nat} (F : FX p s m meth c G R M0 d "HeadCount$Parser" bP_number 3 (some .int)) (hC : CBs l G d C) : ∀ (a0 : Nat) (x1 : Int32) (x2 : Int32) (M : Mem) (H : Heap) (locs : List Loc) (cells slots : Nat) (ls : Array Slot), fP_number_38 n d C a0 x1 x2 M = some (r, M') → RL G M0 M H locs cells slots → lv_has ls 3 [(0, .ref a0), (1, .int x1), (2, .int x2)] → W p l e R s m args below meth c H locs cells slots (CQ G below s M0 r M') (F0 m 38 ls []) := by
  obtain ⟨hx, hb, hml, hown, hrt, hlk, hex, hK, hRm⟩ := id F
  intro a0 x1 x2 M H locs cells slots ls h hR hl
  unfold fP_number_38 at h
  refine lv_iload_n hx hb dP_number_38 rfl (lv_at hl 2 rfl) ?_
  refine lv_if_le (tgt := 56) hx hb dP_number_39 (by decide) (fun c_1 => ?_) (fun c_1 => ?_)
  · replace h := rz_t c_1 h
    exact tP_number_56 F hC x1 _ _ _ _ _ _ h hR (lv_sub hl [1] rfl)
  · replace h := rz_f c_1 h
    refine lv_aload_n hx hb dP_number_42 rfl (lv_at hl 0 rfl) ?_
    obtain ⟨c_2, h⟩ := rz_chk h
    obtain ⟨q_6, M_4, h_5, h⟩ := rz_c h
    refine rc_V (rest := []) (As := []) hx hb (hl.1.trans hml.symm) hown hK hR hRm mfP_peek kl_P_64 hk_P rfl rfl c_2 (by simp [cat_rf, cat_i, cat_a, cat_l, cat_n]) (hC 17 _ _ _ _ h_5) dP_number_43 (fun v1 H locs cells slots ev hR => ?_) (fun x1 q1 ce1 H locs cells slots ex hR g1 g2 g3 => ?_)
    · rcases h with ⟨v_3, ev2, h⟩ | ⟨e2, ee2, -⟩
      · cases ev.symm.trans ev2
        replace h := rz_i h
        obtain ⟨x_7, rfl, h⟩ := h
        dsimp only [Option.toList, List.cons_append, List.nil_append]
        obtain ⟨q_11, M_9, h_10, h⟩ := rz_c h
        refine rc_S (rest := []) (As := [.int x_7]) hx hb (hl.1.trans hml.symm) hown hK hR hRm mfP_isDecimal kl_P_121 rfl (by simp [cat_rf, cat_i, cat_a, cat_l, cat_n]) (hC 34 _ _ _ _ h_10) dP_number_46 (fun v1 H locs cells slots ev hR => ?_) (fun x1 q1 ce1 H locs cells slots ex hR g1 g2 g3 => ?_)
        · rcases h with ⟨v_8, ev2, h⟩ | ⟨e2, ee2, -⟩
          · cases ev.symm.trans ev2
            replace h := rz_i h
            obtain ⟨x_12, rfl, h⟩ := h
            dsimp only [Option.toList, List.cons_append, List.nil_append]
            refine lv_if_ne (tgt := 56) hx hb dP_number_49 (by decide) (fun c_13 => ?_) (fun c_13 => ?_)
            · replace h := rz_f c_13 h
              exact tP_number_56 F hC x1 _ _ _ _ _ _ h hR (lv_sub hl [1] rfl)
            · replace h := rz_t c_13 h
              refine lv_iconst (v := 1) hx hb dP_number_52 (by decide) ?_
              refine lv_goto (tgt := 57) hx hb dP_number_53 (by decide) ?_
              exact tP_number_57 F hC x1 1 _ _ _ _ _ _ h hR (lv_sub hl [1] rfl)
          · cases ev.symm.trans ee2
        · rcases h with ⟨v2, ev2, -⟩ | ⟨e2, ee2, h⟩
          · cases ex.symm.trans ev2
          · cases ex.symm.trans ee2
            cases h
            exact rt_x hlk hex hR g1 g2 g3
      · cases ev.symm.trans ee2
    · rcases h with ⟨v2, ev2, -⟩ | ⟨e2, ee2, h⟩
      · cases ex.symm.trans ev2
      · cases ex.symm.trans ee2
        cases h
        exact rt_x hlk hex hR g1 g2 g3
def fP_number_4 (n d : Nat) (C : Cx) : Nat → Nat → Int32 → Int32 → Mem → Rz
  | 0, _, _, _, _ => none
  | w + 1, a0, x1, x2, M => if 3 ≤ x2 then (fP_number_38 n d C a0 x1 x2 M) else (if mK M a0 = 2 then (rzC (C 17 [.ref a0] M) fun v_3 M_4 => (rzI v_3 fun x_7 => (rzC (C 34 [.int x_7] M_4) fun v_8 M_9 => (rzI v_8 fun x_12 => (if x_12 = 0 then (fP_number_38 n d C a0 x1 x2 M_9) else (if mK M_9 a0 = 2 then (rzC (C 19 [.ref a0] M_9) fun v_15 M_16 => (rzI v_15 fun x_19 => (fP_number_4 n d C w a0 ((10 * x1) + (x_19 - 48)) (x2 + 1) M_16))) else none)))))) else none)
set_option maxRecDepth 100000 in
set_option maxHeartbeats 4000000 in
theorem tP_number_4 {n : Nat} (F : FX p s m meth c G R M0 d "HeadCount$Parser" bP_number 3 (some .int)) (hC : CBs l G d C) : ∀ (w : Nat) (a0 : Nat) (x1 : Int32) (x2 : Int32) (M : Mem) (H : Heap) (locs : List Loc) (cells slots : Nat) (ls : Array Slot), fP_number_4 n d C w a0 x1 x2 M = some (r, M') → RL G M0 M H locs cells slots → lv_has ls 3 [(0, .ref a0), (1, .int x1), (2, .int x2)] → W p l e R s m args below meth c H locs cells slots (CQ G below s M0 r M') (F0 m 4 ls []) := by
  obtain ⟨hx, hb, hml, hown, hrt, hlk, hex, hK, hRm⟩ := id F
  intro w
  induction w with
  | zero => intro a0 x1 x2 M H locs cells slots ls h; cases h
  | succ w ih =>
    intro a0 x1 x2 M H locs cells slots ls h hR hl
    rw [fP_number_4] at h
    refine lv_iload_n hx hb dP_number_4 rfl (lv_at hl 2 rfl) ?_
    refine lv_iconst (v := 3) hx hb dP_number_5 (by decide) ?_
    refine lv_icmp_ge (tgt := 38) hx hb dP_number_6 (by decide) (fun c_1 => ?_) (fun c_1 => ?_)
    · replace h := rz_t c_1 h
      exact tP_number_38 F hC a0 x1 x2 _ _ _ _ _ _ h hR (lv_sub hl [0, 1, 2] rfl)
    · replace h := rz_f c_1 h
      refine lv_aload_n hx hb dP_number_9 rfl (lv_at hl 0 rfl) ?_
      obtain ⟨c_2, h⟩ := rz_chk h
      obtain ⟨q_6, M_4, h_5, h⟩ := rz_c h
      refine rc_V (rest := []) (As := []) hx hb (hl.1.trans hml.symm) hown hK hR hRm mfP_peek kl_P_64 hk_P rfl rfl c_2 (by simp [cat_rf, cat_i, cat_a, cat_l, cat_n]) (hC 17 _ _ _ _ h_5) dP_number_10 (fun v1 H locs cells slots ev hR => ?_) (fun x1 q1 ce1 H locs cells slots ex hR g1 g2 g3 => ?_)
      · rcases h with ⟨v_3, ev2, h⟩ | ⟨e2, ee2, -⟩
        · cases ev.symm.trans ev2
          replace h := rz_i h
          obtain ⟨x_7, rfl, h⟩ := h
          dsimp only [Option.toList, List.cons_append, List.nil_append]
          obtain ⟨q_11, M_9, h_10, h⟩ := rz_c h
          refine rc_S (rest := []) (As := [.int x_7]) hx hb (hl.1.trans hml.symm) hown hK hR hRm mfP_isDecimal kl_P_121 rfl (by simp [cat_rf, cat_i, cat_a, cat_l, cat_n]) (hC 34 _ _ _ _ h_10) dP_number_13 (fun v1 H locs cells slots ev hR => ?_) (fun x1 q1 ce1 H locs cells slots ex hR g1 g2 g3 => ?_)
          · rcases h with ⟨v_8, ev2, h⟩ | ⟨e2, ee2, -⟩
            · cases ev.symm.trans ev2
              replace h := rz_i h
              obtain ⟨x_12, rfl, h⟩ := h
              dsimp only [Option.toList, List.cons_append, List.nil_append]
              refine lv_if_eq (tgt := 38) hx hb dP_number_16 (by decide) (fun c_13 => ?_) (fun c_13 => ?_)
              · replace h := rz_t c_13 h
                exact tP_number_38 F hC a0 x1 x2 _ _ _ _ _ _ h hR (lv_sub hl [0, 1, 2] rfl)
              · replace h := rz_f c_13 h
                refine lv_bipush (v := 10) hx hb dP_number_19 (by decide) ?_
                refine lv_iload_n hx hb dP_number_21 rfl (lv_at hl 1 rfl) ?_
                refine lv_imul hx hb dP_number_22 ?_
                refine lv_aload_n hx hb dP_number_23 rfl (lv_at hl 0 rfl) ?_
                obtain ⟨c_14, h⟩ := rz_chk h
                obtain ⟨q_18, M_16, h_17, h⟩ := rz_c h
                refine rc_V (rest := [.int (10 * x1)]) (As := []) hx hb (hl.1.trans hml.symm) hown hK hR hRm mfP_next kl_P_112 hk_P rfl rfl c_14 (by simp [cat_rf, cat_i, cat_a, cat_l, cat_n]) (hC 19 _ _ _ _ h_17) dP_number_24 (fun v1 H locs cells slots ev hR => ?_) (fun x1 q1 ce1 H locs cells slots ex hR g1 g2 g3 => ?_)
                · rcases h with ⟨v_15, ev2, h⟩ | ⟨e2, ee2, -⟩
                  · cases ev.symm.trans ev2
                    replace h := rz_i h
                    obtain ⟨x_19, rfl, h⟩ := h
                    dsimp only [Option.toList, List.cons_append, List.nil_append]
                    refine lv_bipush (v := 48) hx hb dP_number_27 (by decide) ?_
                    refine lv_isub hx hb dP_number_29 ?_
                    refine lv_iadd hx hb dP_number_30 ?_
                    refine lv_istore_n (lv' := [(1, .int ((10 * x1) + (x_19 - 48))), (0, .ref a0), (2, .int x2)]) hx hb dP_number_31 rfl hl (by decide) rfl (fun ls hl => ?_)
                    refine lv_iinc (k := 2) (v := x2 + 1) (lv' := [(2, .int (x2 + 1)), (1, .int ((10 * x1) + (x_19 - 48))), (0, .ref a0)]) hx hb dP_number_32 hl rfl (by rw [show Int32.ofInt 1 = 1 from by decide]) (by decide) rfl (fun ls hl => ?_)
                    refine lv_goto (tgt := 4) hx hb dP_number_35 (by decide) ?_
                    exact ih a0 ((10 * x1) + (x_19 - 48)) (x2 + 1) _ _ _ _ _ _ h hR (lv_sub hl [2, 1, 0] rfl)
                  · cases ev.symm.trans ee2
                · rcases h with ⟨v2, ev2, -⟩ | ⟨e2, ee2, h⟩
                  · cases ex.symm.trans ev2
                  · cases ex.symm.trans ee2
                    cases h
                    exact rt_x hlk hex hR g1 g2 g3
            · cases ev.symm.trans ee2
          · rcases h with ⟨v2, ev2, -⟩ | ⟨e2, ee2, h⟩
            · cases ex.symm.trans ev2
            · cases ex.symm.trans ee2
              cases h
              exact rt_x hlk hex hR g1 g2 g3
        · cases ev.symm.trans ee2
      · rcases h with ⟨v2, ev2, -⟩ | ⟨e2, ee2, h⟩
        · cases ex.symm.trans ev2
        · cases ex.symm.trans ee2
          cases h
          exact rt_x hlk hex hR g1 g2 g3
def fP_number_0 (n d : Nat) (C : Cx) (a0 : Nat) (M : Mem) : Rz := fP_number_4 n d C n a0 0 0 M
set_option maxRecDepth 100000 in
set_option maxHeartbeats 4000000 in
theorem tP_number_0 {n : Nat} (F : FX p s m meth c G R M0 d "HeadCount$Parser" bP_number 3 (some .int)) (hC : CBs l G d C) : ∀ (a0 : Nat) (M : Mem) (H : Heap) (locs : List Loc) (cells slots : Nat) (ls : Array Slot), fP_number_0 n d C a0 M = some (r, M') → RL G M0 M H locs cells slots → lv_has ls 3 [(0, .ref a0)] → W p l e R s m args below meth c H locs cells slots (CQ G below s M0 r M') (F0 m 0 ls []) := by
  obtain ⟨hx, hb, hml, hown, hrt, hlk, hex, hK, hRm⟩ := id F
  intro a0 M H locs cells slots ls h hR hl
  unfold fP_number_0 at h
  refine lv_iconst (v := 0) hx hb dP_number_0 (by decide) ?_
  refine lv_istore_n (lv' := [(1, .int 0), (0, .ref a0)]) hx hb dP_number_1 rfl hl (by decide) rfl (fun ls hl => ?_)
  refine lv_iconst (v := 0) hx hb dP_number_2 (by decide) ?_
  refine lv_istore_n (lv' := [(2, .int 0), (1, .int 0), (0, .ref a0)]) hx hb dP_number_3 rfl hl (by decide) rfl (fun ls hl => ?_)
  exact tP_number_4 F hC n a0 0 0 _ _ _ _ _ _ h hR (lv_sub hl [2, 1, 0] rfl)
set_option maxRecDepth 100000 in
set_option maxHeartbeats 4000000 in
theorem sP_number {l : Launch} {G : Gx} {n d : Nat} {C : Cx} (hC : CBs l G d C) (a0 : Nat) {M M' : Mem} {r : Option Value ⊕ Nat} (h : fP_number_0 n d C a0 M = some (r, M')) : CB l G (d + 1) yP_number [.ref a0] M r M' := by
  intro p e R s m below meth c hx hn hm hc hlk hK hR hcap hS hU hfr hlo hrc hrs
  obtain ⟨hb, hml, hrt, hex, hown⟩ := fx_of hn hm hc (hK.w mfP_number.2.2.1 rfl #[])
  have F : FX p s m meth c G R M d "HeadCount$Parser" bP_number 3 (some .int) := ⟨hx, hb, hml, hown, hrt, hlk, hex, hK, hfr, hlo, by rw [← hcap]; exact hrc, hrs⟩
  rw [hml]
  have hl := lv_entry ([.ref a0]) (n := 3) (by simp [lg_sl, cat_rf, cat_i, cat_a, cat_l, cat_n])
  rw [lg_entry_eq]
  generalize (lg_sl ([.ref a0]) ++ List.replicate (3 - (lg_sl ([.ref a0])).length) Slot.unset).toArray = ls at hl ⊢
  have hl : lv_has ls 3 [(0, .ref a0)] := by simpa [lv_args, cat_rf, cat_i, cat_a, cat_l, cat_n] using hl
  exact tP_number_0 F hC a0 _ _ _ _ _ _ h (RL.start hR hcap hS hU) (lv_sub hl [0] rfl)
def fP_divided_14 (n d : Nat) (C : Cx) (a0 : Nat) (x1 : Int32) (x2 : Int32) (xs0 : Int32) (M : Mem) : Rz := rzC (C 16 [.int xs0] M) fun v_1 M_2 => (rzV v_1 (if mK M_2 a0 = 2 then (rzC (C 19 [.ref a0] M_2) fun v_6 M_7 => (rzI v_6 fun x_10 => (if mK M_7 a0 = 2 then (rzC (C 20 [.ref a0, .int x_10] M_7) fun v_12 M_13 => (rzP v_12 fun r_16 => (rzD r_16 fun a_17 => (if mK M_13 a_17 = 4 then (rzM (setI M_13 a_17 1 x2) fun M_20 => (if mK M_20 a0 = 2 then (rzC (C 37 [.ref a0, va_rf r_16, .int 1, .int x1] M_20) fun v_24 M_25 => (rzV v_24 (some (.inl (some (va_rf r_16)), M_25)))) else none)) else none)))) else none))) else none))
set_option maxRecDepth 100000 in
set_option maxHeartbeats 4000000 in
theorem tP_divided_14 {n : Nat} (F : FX p s m meth c G R M0 d "HeadCount$Parser" bP_divided 4 (some (.object "HeadCount$Node"))) (hC : CBs l G d C) : ∀ (a0 : Nat) (x1 : Int32) (x2 : Int32) (xs0 : Int32) (M : Mem) (H : Heap) (locs : List Loc) (cells slots : Nat) (ls : Array Slot), fP_divided_14 n d C a0 x1 x2 xs0 M = some (r, M') → RL G M0 M H locs cells slots → lv_has ls 4 [(0, .ref a0), (1, .int x1), (2, .int x2)] → W p l e R s m args below meth c H locs cells slots (CQ G below s M0 r M') (F0 m 14 ls [.int xs0]) := by
  obtain ⟨hx, hb, hml, hown, hrt, hlk, hex, hK, hRm⟩ := id F
  intro a0 x1 x2 xs0 M H locs cells slots ls h hR hl
  unfold fP_divided_14 at h
  obtain ⟨q_4, M_2, h_3, h⟩ := rz_c h
  refine rc_S (rest := []) (As := [.int xs0]) hx hb (hl.1.trans hml.symm) hown hK hR hRm mfP_insist kl_P_51 rfl (by simp [cat_rf, cat_i, cat_a, cat_l, cat_n]) (hC 16 _ _ _ _ h_3) dP_divided_14 (fun v1 H locs cells slots ev hR => ?_) (fun x1 q1 ce1 H locs cells slots ex hR g1 g2 g3 => ?_)
  · rcases h with ⟨v_1, ev2, h⟩ | ⟨e2, ee2, -⟩
    · cases ev.symm.trans ev2
      replace h := rz_v h
      obtain ⟨rfl, h⟩ := h
      dsimp only [Option.toList, List.cons_append, List.nil_append]
      refine lv_aload_n hx hb dP_divided_17 rfl (lv_at hl 0 rfl) ?_
      refine lv_aload_n hx hb dP_divided_18 rfl (lv_at hl 0 rfl) ?_
      obtain ⟨c_5, h⟩ := rz_chk h
      obtain ⟨q_9, M_7, h_8, h⟩ := rz_c h
      refine rc_V (rest := [.ref a0]) (As := []) hx hb (hl.1.trans hml.symm) hown hK hR hRm mfP_next kl_P_112 hk_P rfl rfl c_5 (by simp [cat_rf, cat_i, cat_a, cat_l, cat_n]) (hC 19 _ _ _ _ h_8) dP_divided_19 (fun v1 H locs cells slots ev hR => ?_) (fun x1 q1 ce1 H locs cells slots ex hR g1 g2 g3 => ?_)
      · rcases h with ⟨v_6, ev2, h⟩ | ⟨e2, ee2, -⟩
        · cases ev.symm.trans ev2
          replace h := rz_i h
          obtain ⟨x_10, rfl, h⟩ := h
          dsimp only [Option.toList, List.cons_append, List.nil_append]
          obtain ⟨c_11, h⟩ := rz_chk h
          obtain ⟨q_15, M_13, h_14, h⟩ := rz_c h
          refine rc_V (rest := []) (As := [.int x_10]) hx hb (hl.1.trans hml.symm) hown hK hR hRm mfP_make kl_P_68 hk_P rfl rfl c_11 (by simp [cat_rf, cat_i, cat_a, cat_l, cat_n]) (hC 20 _ _ _ _ h_14) dP_divided_22 (fun v1 H locs cells slots ev hR => ?_) (fun x1 q1 ce1 H locs cells slots ex hR g1 g2 g3 => ?_)
          · rcases h with ⟨v_12, ev2, h⟩ | ⟨e2, ee2, -⟩
            · cases ev.symm.trans ev2
              replace h := rz_p h
              obtain ⟨r_16, rfl, h⟩ := h
              dsimp only [Option.toList, List.cons_append, List.nil_append]
              refine lr_astore_n (lv' := [(3, va_rf r_16), (0, .ref a0), (1, .int x1), (2, .int x2)]) hx hb dP_divided_25 rfl hl (by decide) rfl (fun ls hl => ?_)
              refine lr_aload_n hx hb dP_divided_26 rfl (lv_at hl 0 rfl) ?_
              refine lv_iload_n hx hb dP_divided_27 rfl (lv_at hl 3 rfl) ?_
              obtain ⟨a_17, e_18, h⟩ := rz_d h
              rw [e_18]
              obtain ⟨c_19, h⟩ := rz_chk h
              obtain ⟨M_20, q_21, h⟩ := rz_m h
              refine rg_putI hx hb hown hK hR hk_N 1 (by decide) kf_P_127 rfl rfl (ty := .int) (by decide +kernel) (Or.inl rfl) rfl c_19 dP_divided_28 (fun H locs hR => ?_)
              rw [← q_21] at hR
              have c_22 : mK M_20 a_17 = 4 := by rw [q_21]; exact c_19
              refine lv_aload_n hx hb dP_divided_31 rfl (lv_at hl 1 rfl) ?_
              refine lr_aload_n hx hb dP_divided_32 rfl (lv_at hl 0 rfl) ?_
              refine lv_iconst (v := 1) hx hb dP_divided_33 (by decide) ?_
              refine lv_iload_n hx hb dP_divided_34 rfl (lv_at hl 2 rfl) ?_
              obtain ⟨c_23, h⟩ := rz_chk h
              obtain ⟨q_27, M_25, h_26, h⟩ := rz_c h
              refine rc_V (rest := []) (As := [va_rf r_16, .int 1, .int x1]) hx hb (hl.1.trans hml.symm) hown hK hR hRm mfP_addSum kl_P_129 hk_P rfl rfl c_23 (by simp [cat_rf, cat_i, cat_a, cat_l, cat_n]) (hC 37 _ _ _ _ h_26) dP_divided_35 (fun v1 H locs cells slots ev hR => ?_) (fun x1 q1 ce1 H locs cells slots ex hR g1 g2 g3 => ?_)
              · rcases h with ⟨v_24, ev2, h⟩ | ⟨e2, ee2, -⟩
                · cases ev.symm.trans ev2
                  replace h := rz_v h
                  obtain ⟨rfl, h⟩ := h
                  dsimp only [Option.toList, List.cons_append, List.nil_append]
                  refine lr_aload_n hx hb dP_divided_38 rfl (lv_at hl 0 rfl) ?_
                  cases h
                  exact rt_a (r := r_16) hx hb hlk hrt (Or.inl ⟨_, rfl⟩) hR dP_divided_39
                · cases ev.symm.trans ee2
              · rcases h with ⟨v2, ev2, -⟩ | ⟨e2, ee2, h⟩
                · cases ex.symm.trans ev2
                · cases ex.symm.trans ee2
                  cases h
                  exact rt_x hlk hex hR g1 g2 g3
            · cases ev.symm.trans ee2
          · rcases h with ⟨v2, ev2, -⟩ | ⟨e2, ee2, h⟩
            · cases ex.symm.trans ev2
            · cases ex.symm.trans ee2
              cases h
              exact rt_x hlk hex hR g1 g2 g3
        · cases ev.symm.trans ee2
      · rcases h with ⟨v2, ev2, -⟩ | ⟨e2, ee2, h⟩
        · cases ex.symm.trans ev2
        · cases ex.symm.trans ee2
          cases h
          exact rt_x hlk hex hR g1 g2 g3
    · cases ev.symm.trans ee2
  · rcases h with ⟨v2, ev2, -⟩ | ⟨e2, ee2, h⟩
    · cases ex.symm.trans ev2
    · cases ex.symm.trans ee2
      cases h
      exact rt_x hlk hex hR g1 g2 g3
def fP_divided_0 (n d : Nat) (C : Cx) (a0 : Nat) (x1 : Int32) (M : Mem) : Rz := if mK M a0 = 2 then (rzC (C 35 [.ref a0] M) fun v_2 M_3 => (rzI v_2 fun x_6 => (if x_6 = 0 then (fP_divided_14 n d C a0 x1 x_6 0 M_3) else (fP_divided_14 n d C a0 x1 x_6 1 M_3)))) else none
set_option maxRecDepth 100000 in
set_option maxHeartbeats 4000000 in
theorem tP_divided_0 {n : Nat} (F : FX p s m meth c G R M0 d "HeadCount$Parser" bP_divided 4 (some (.object "HeadCount$Node"))) (hC : CBs l G d C) : ∀ (a0 : Nat) (x1 : Int32) (M : Mem) (H : Heap) (locs : List Loc) (cells slots : Nat) (ls : Array Slot), fP_divided_0 n d C a0 x1 M = some (r, M') → RL G M0 M H locs cells slots → lv_has ls 4 [(0, .ref a0), (1, .int x1)] → W p l e R s m args below meth c H locs cells slots (CQ G below s M0 r M') (F0 m 0 ls []) := by
  obtain ⟨hx, hb, hml, hown, hrt, hlk, hex, hK, hRm⟩ := id F
  intro a0 x1 M H locs cells slots ls h hR hl
  unfold fP_divided_0 at h
  refine lv_aload_n hx hb dP_divided_0 rfl (lv_at hl 0 rfl) ?_
  obtain ⟨c_1, h⟩ := rz_chk h
  obtain ⟨q_5, M_3, h_4, h⟩ := rz_c h
  refine rc_V (rest := []) (As := []) hx hb (hl.1.trans hml.symm) hown hK hR hRm mfP_number kl_P_124 hk_P rfl rfl c_1 (by simp [cat_rf, cat_i, cat_a, cat_l, cat_n]) (hC 35 _ _ _ _ h_4) dP_divided_1 (fun v1 H locs cells slots ev hR => ?_) (fun x1 q1 ce1 H locs cells slots ex hR g1 g2 g3 => ?_)
  · rcases h with ⟨v_2, ev2, h⟩ | ⟨e2, ee2, -⟩
    · cases ev.symm.trans ev2
      replace h := rz_i h
      obtain ⟨x_6, rfl, h⟩ := h
      dsimp only [Option.toList, List.cons_append, List.nil_append]
      refine lv_istore_n (lv' := [(2, .int x_6), (0, .ref a0), (1, .int x1)]) hx hb dP_divided_4 rfl hl (by decide) rfl (fun ls hl => ?_)
      refine lv_iload_n hx hb dP_divided_5 rfl (lv_at hl 0 rfl) ?_
      refine lv_if_eq (tgt := 13) hx hb dP_divided_6 (by decide) (fun c_7 => ?_) (fun c_7 => ?_)
      · replace h := rz_t c_7 h
        refine lv_iconst (v := 0) hx hb dP_divided_13 (by decide) ?_
        exact tP_divided_14 F hC a0 x1 x_6 0 _ _ _ _ _ _ h hR (lv_sub hl [1, 2, 0] rfl)
      · replace h := rz_f c_7 h
        refine lv_iconst (v := 1) hx hb dP_divided_9 (by decide) ?_
        refine lv_goto (tgt := 14) hx hb dP_divided_10 (by decide) ?_
        exact tP_divided_14 F hC a0 x1 x_6 1 _ _ _ _ _ _ h hR (lv_sub hl [1, 2, 0] rfl)
    · cases ev.symm.trans ee2
  · rcases h with ⟨v2, ev2, -⟩ | ⟨e2, ee2, h⟩
    · cases ex.symm.trans ev2
    · cases ex.symm.trans ee2
      cases h
      exact rt_x hlk hex hR g1 g2 g3
set_option maxRecDepth 100000 in
set_option maxHeartbeats 4000000 in
theorem sP_divided {l : Launch} {G : Gx} {n d : Nat} {C : Cx} (hC : CBs l G d C) (a0 : Nat) (x1 : Int32) {M M' : Mem} {r : Option Value ⊕ Nat} (h : fP_divided_0 n d C a0 x1 M = some (r, M')) : CB l G (d + 1) yP_divided [.ref a0, .int x1] M r M' := by
  intro p e R s m below meth c hx hn hm hc hlk hK hR hcap hS hU hfr hlo hrc hrs
  obtain ⟨hb, hml, hrt, hex, hown⟩ := fx_of hn hm hc (hK.w mfP_divided.2.2.1 rfl #[])
  have F : FX p s m meth c G R M d "HeadCount$Parser" bP_divided 4 (some (.object "HeadCount$Node")) := ⟨hx, hb, hml, hown, hrt, hlk, hex, hK, hfr, hlo, by rw [← hcap]; exact hrc, hrs⟩
  rw [hml]
  have hl := lv_entry ([.ref a0, .int x1]) (n := 4) (by simp [lg_sl, cat_rf, cat_i, cat_a, cat_l, cat_n])
  rw [lg_entry_eq]
  generalize (lg_sl ([.ref a0, .int x1]) ++ List.replicate (4 - (lg_sl ([.ref a0, .int x1])).length) Slot.unset).toArray = ls at hl ⊢
  have hl : lv_has ls 4 [(0, .ref a0), (1, .int x1)] := by simpa [lv_args, cat_rf, cat_i, cat_a, cat_l, cat_n] using hl
  exact tP_divided_0 F hC a0 x1 _ _ _ _ _ _ h (RL.start hR hcap hS hU) (lv_sub hl [0, 1] rfl)
def fP_addSum_66 (n d : Nat) (C : Cx) (k24 : Nat → Option Nat → Int32 → Int32 → Int32 → Mem → Rz) (a0 : Nat) (r1 : Option Nat) (x2 : Int32) (x3 : Int32) (x4 : Int32) (xs0 : Int32) (rs1 : Option Nat) (as2 : Nat) (M : Mem) : Rz := if mK M as2 = 2 then (rzC (C 38 [.ref as2, va_rf rs1, .int xs0, .int x3] M) fun v_2 M_3 => (rzV v_2 (k24 a0 r1 x2 x3 (x4 + 1) M_3))) else none
set_option maxRecDepth 100000 in
set_option maxHeartbeats 4000000 in
theorem tP_addSum_66 {n : Nat} {k24 : Nat → Option Nat → Int32 → Int32 → Int32 → Mem → Rz} (F : FX p s m meth c G R M0 d "HeadCount$Parser" bP_addSum 5 none) (hC : CBs l G d C) (hk24 : ∀ (a0 : Nat) (r1 : Option Nat) (x2 : Int32) (x3 : Int32) (x4 : Int32) (M : Mem) (H : Heap) (locs : List Loc) (cells slots : Nat) (ls : Array Slot), k24 a0 r1 x2 x3 x4 M = some (r, M') → RL G M0 M H locs cells slots → lv_has ls 5 [(0, .ref a0), (1, va_rf r1), (2, .int x2), (3, .int x3), (4, .int x4)] → W p l e R s m args below meth c H locs cells slots (CQ G below s M0 r M') (F0 m 24 ls [])) : ∀ (a0 : Nat) (r1 : Option Nat) (x2 : Int32) (x3 : Int32) (x4 : Int32) (xs0 : Int32) (rs1 : Option Nat) (as2 : Nat) (M : Mem) (H : Heap) (locs : List Loc) (cells slots : Nat) (ls : Array Slot), fP_addSum_66 n d C k24 a0 r1 x2 x3 x4 xs0 rs1 as2 M = some (r, M') → RL G M0 M H locs cells slots → lv_has ls 5 [(0, .ref a0), (1, va_rf r1), (2, .int x2), (3, .int x3), (4, .int x4)] → W p l e R s m args below meth c H locs cells slots (CQ G below s M0 r M') (F0 m 66 ls [.int xs0, va_rf rs1, .ref as2]) := by
  obtain ⟨hx, hb, hml, hown, hrt, hlk, hex, hK, hRm⟩ := id F
  intro a0 r1 x2 x3 x4 xs0 rs1 as2 M H locs cells slots ls h hR hl
  unfold fP_addSum_66 at h
  refine lv_iload_n hx hb dP_addSum_66 rfl (lv_at hl 3 rfl) ?_
  obtain ⟨c_1, h⟩ := rz_chk h
  obtain ⟨q_5, M_3, h_4, h⟩ := rz_c h
  refine rc_V (rest := []) (As := [va_rf rs1, .int xs0, .int x3]) hx hb (hl.1.trans hml.symm) hown hK hR hRm mfP_addPart kl_P_137 hk_P rfl rfl c_1 (by simp [cat_rf, cat_i, cat_a, cat_l, cat_n]) (hC 38 _ _ _ _ h_4) dP_addSum_67 (fun v1 H locs cells slots ev hR => ?_) (fun x1 q1 ce1 H locs cells slots ex hR g1 g2 g3 => ?_)
  · rcases h with ⟨v_2, ev2, h⟩ | ⟨e2, ee2, -⟩
    · cases ev.symm.trans ev2
      replace h := rz_v h
      obtain ⟨rfl, h⟩ := h
      dsimp only [Option.toList, List.cons_append, List.nil_append]
      refine lv_iinc (k := 4) (v := x4 + 1) (lv' := [(4, .int (x4 + 1)), (0, .ref a0), (1, va_rf r1), (2, .int x2), (3, .int x3)]) hx hb dP_addSum_70 hl rfl (by rw [show Int32.ofInt 1 = 1 from by decide]) (by decide) rfl (fun ls hl => ?_)
      refine lv_goto (tgt := 24) hx hb dP_addSum_73 (by decide) ?_
      exact hk24 a0 r1 x2 x3 (x4 + 1) _ _ _ _ _ _ h hR (lv_sub hl [1, 2, 3, 4, 0] rfl)
    · cases ev.symm.trans ee2
  · rcases h with ⟨v2, ev2, -⟩ | ⟨e2, ee2, h⟩
    · cases ex.symm.trans ev2
    · cases ex.symm.trans ee2
      cases h
      exact rt_x hlk hex hR g1 g2 g3
def fP_addSum_49 (n d : Nat) (C : Cx) (k24 : Nat → Option Nat → Int32 → Int32 → Int32 → Mem → Rz) (a0 : Nat) (r1 : Option Nat) (x2 : Int32) (x3 : Int32) (x4 : Int32) (M : Mem) : Rz := if mK M a0 = 2 then (rzC (C 19 [.ref a0] M) fun v_2 M_3 => (rzI v_2 fun x_6 => (if x_6 = 45 then (fP_addSum_66 n d C k24 a0 r1 x2 x3 x4 (-x2) r1 a0 M_3) else (fP_addSum_66 n d C k24 a0 r1 x2 x3 x4 x2 r1 a0 M_3)))) else none
set_option maxRecDepth 100000 in
set_option maxHeartbeats 4000000 in
theorem tP_addSum_49 {n : Nat} {k24 : Nat → Option Nat → Int32 → Int32 → Int32 → Mem → Rz} (F : FX p s m meth c G R M0 d "HeadCount$Parser" bP_addSum 5 none) (hC : CBs l G d C) (hk24 : ∀ (a0 : Nat) (r1 : Option Nat) (x2 : Int32) (x3 : Int32) (x4 : Int32) (M : Mem) (H : Heap) (locs : List Loc) (cells slots : Nat) (ls : Array Slot), k24 a0 r1 x2 x3 x4 M = some (r, M') → RL G M0 M H locs cells slots → lv_has ls 5 [(0, .ref a0), (1, va_rf r1), (2, .int x2), (3, .int x3), (4, .int x4)] → W p l e R s m args below meth c H locs cells slots (CQ G below s M0 r M') (F0 m 24 ls [])) : ∀ (a0 : Nat) (r1 : Option Nat) (x2 : Int32) (x3 : Int32) (x4 : Int32) (M : Mem) (H : Heap) (locs : List Loc) (cells slots : Nat) (ls : Array Slot), fP_addSum_49 n d C k24 a0 r1 x2 x3 x4 M = some (r, M') → RL G M0 M H locs cells slots → lv_has ls 5 [(0, .ref a0), (1, va_rf r1), (2, .int x2), (3, .int x3), (4, .int x4)] → W p l e R s m args below meth c H locs cells slots (CQ G below s M0 r M') (F0 m 49 ls []) := by
  obtain ⟨hx, hb, hml, hown, hrt, hlk, hex, hK, hRm⟩ := id F
  intro a0 r1 x2 x3 x4 M H locs cells slots ls h hR hl
  unfold fP_addSum_49 at h
  refine lv_aload_n hx hb dP_addSum_49 rfl (lv_at hl 0 rfl) ?_
  refine lr_aload_n hx hb dP_addSum_50 rfl (lv_at hl 1 rfl) ?_
  refine lv_aload_n hx hb dP_addSum_51 rfl (lv_at hl 0 rfl) ?_
  obtain ⟨c_1, h⟩ := rz_chk h
  obtain ⟨q_5, M_3, h_4, h⟩ := rz_c h
  refine rc_V (rest := [va_rf r1, .ref a0]) (As := []) hx hb (hl.1.trans hml.symm) hown hK hR hRm mfP_next kl_P_112 hk_P rfl rfl c_1 (by simp [cat_rf, cat_i, cat_a, cat_l, cat_n]) (hC 19 _ _ _ _ h_4) dP_addSum_52 (fun v1 H locs cells slots ev hR => ?_) (fun x1 q1 ce1 H locs cells slots ex hR g1 g2 g3 => ?_)
  · rcases h with ⟨v_2, ev2, h⟩ | ⟨e2, ee2, -⟩
    · cases ev.symm.trans ev2
      replace h := rz_i h
      obtain ⟨x_6, rfl, h⟩ := h
      dsimp only [Option.toList, List.cons_append, List.nil_append]
      refine lv_bipush (v := 45) hx hb dP_addSum_55 (by decide) ?_
      refine lv_icmp_ne (tgt := 65) hx hb dP_addSum_57 (by decide) (fun c_7 => ?_) (fun c_7 => ?_)
      · replace h := rz_f c_7 h
        refine lv_iload_n hx hb dP_addSum_65 rfl (lv_at hl 2 rfl) ?_
        exact tP_addSum_66 F hC hk24 a0 r1 x2 x3 x4 x2 r1 a0 _ _ _ _ _ _ h hR (lv_sub hl [0, 1, 2, 3, 4] rfl)
      · replace h := rz_t c_7 h
        refine lv_iload_n hx hb dP_addSum_60 rfl (lv_at hl 2 rfl) ?_
        refine lv_ineg hx hb dP_addSum_61 ?_
        refine lv_goto (tgt := 66) hx hb dP_addSum_62 (by decide) ?_
        exact tP_addSum_66 F hC hk24 a0 r1 x2 x3 x4 (-x2) r1 a0 _ _ _ _ _ _ h hR (lv_sub hl [0, 1, 2, 3, 4] rfl)
    · cases ev.symm.trans ee2
  · rcases h with ⟨v2, ev2, -⟩ | ⟨e2, ee2, h⟩
    · cases ex.symm.trans ev2
    · cases ex.symm.trans ee2
      cases h
      exact rt_x hlk hex hR g1 g2 g3
def fP_addSum_76 (n d : Nat) (C : Cx) (M : Mem) : Rz := some (.inl none, M)
set_option maxRecDepth 100000 in
set_option maxHeartbeats 4000000 in
theorem tP_addSum_76 {n : Nat} (F : FX p s m meth c G R M0 d "HeadCount$Parser" bP_addSum 5 none) (hC : CBs l G d C) : ∀ (M : Mem) (H : Heap) (locs : List Loc) (cells slots : Nat) (ls : Array Slot), fP_addSum_76 n d C M = some (r, M') → RL G M0 M H locs cells slots → lv_has ls 5 [] → W p l e R s m args below meth c H locs cells slots (CQ G below s M0 r M') (F0 m 76 ls []) := by
  obtain ⟨hx, hb, hml, hown, hrt, hlk, hex, hK, hRm⟩ := id F
  intro M H locs cells slots ls h hR hl
  unfold fP_addSum_76 at h
  cases h
  exact rt_v hx hb hlk hrt hR dP_addSum_76
def fP_addSum_24 (n d : Nat) (C : Cx) : Nat → Nat → Option Nat → Int32 → Int32 → Int32 → Mem → Rz
  | 0, _, _, _, _, _, _ => none
  | w + 1, a0, r1, x2, x3, x4, M => if 120 ≤ x4 then (fP_addSum_76 n d C M) else (if mK M a0 = 2 then (rzC (C 17 [.ref a0] M) fun v_3 M_4 => (rzI v_3 fun x_7 => (if x_7 = 43 then (fP_addSum_49 n d C (fP_addSum_24 n d C w) a0 r1 x2 x3 x4 M_4) else (if mK M_4 a0 = 2 then (rzC (C 17 [.ref a0] M_4) fun v_10 M_11 => (rzI v_10 fun x_14 => (if x_14 = 45 then (fP_addSum_49 n d C (fP_addSum_24 n d C w) a0 r1 x2 x3 x4 M_11) else (fP_addSum_76 n d C M_11)))) else none)))) else none)
set_option maxRecDepth 100000 in
set_option maxHeartbeats 4000000 in
theorem tP_addSum_24 {n : Nat} (F : FX p s m meth c G R M0 d "HeadCount$Parser" bP_addSum 5 none) (hC : CBs l G d C) : ∀ (w : Nat) (a0 : Nat) (r1 : Option Nat) (x2 : Int32) (x3 : Int32) (x4 : Int32) (M : Mem) (H : Heap) (locs : List Loc) (cells slots : Nat) (ls : Array Slot), fP_addSum_24 n d C w a0 r1 x2 x3 x4 M = some (r, M') → RL G M0 M H locs cells slots → lv_has ls 5 [(0, .ref a0), (1, va_rf r1), (2, .int x2), (3, .int x3), (4, .int x4)] → W p l e R s m args below meth c H locs cells slots (CQ G below s M0 r M') (F0 m 24 ls []) := by
  obtain ⟨hx, hb, hml, hown, hrt, hlk, hex, hK, hRm⟩ := id F
  intro w
  induction w with
  | zero => intro a0 r1 x2 x3 x4 M H locs cells slots ls h; cases h
  | succ w ih =>
    intro a0 r1 x2 x3 x4 M H locs cells slots ls h hR hl
    rw [fP_addSum_24] at h
    refine lv_iload hx hb dP_addSum_24 (lv_at hl 4 rfl) ?_
    refine lv_bipush (v := 120) hx hb dP_addSum_26 (by decide) ?_
    refine lv_icmp_ge (tgt := 76) hx hb dP_addSum_28 (by decide) (fun c_1 => ?_) (fun c_1 => ?_)
    · replace h := rz_t c_1 h
      exact tP_addSum_76 F hC _ _ _ _ _ _ h hR (lv_sub hl [] rfl)
    · replace h := rz_f c_1 h
      refine lv_aload_n hx hb dP_addSum_31 rfl (lv_at hl 0 rfl) ?_
      obtain ⟨c_2, h⟩ := rz_chk h
      obtain ⟨q_6, M_4, h_5, h⟩ := rz_c h
      refine rc_V (rest := []) (As := []) hx hb (hl.1.trans hml.symm) hown hK hR hRm mfP_peek kl_P_64 hk_P rfl rfl c_2 (by simp [cat_rf, cat_i, cat_a, cat_l, cat_n]) (hC 17 _ _ _ _ h_5) dP_addSum_32 (fun v1 H locs cells slots ev hR => ?_) (fun x1 q1 ce1 H locs cells slots ex hR g1 g2 g3 => ?_)
      · rcases h with ⟨v_3, ev2, h⟩ | ⟨e2, ee2, -⟩
        · cases ev.symm.trans ev2
          replace h := rz_i h
          obtain ⟨x_7, rfl, h⟩ := h
          dsimp only [Option.toList, List.cons_append, List.nil_append]
          refine lv_bipush (v := 43) hx hb dP_addSum_35 (by decide) ?_
          refine lv_icmp_eq (tgt := 49) hx hb dP_addSum_37 (by decide) (fun c_8 => ?_) (fun c_8 => ?_)
          · replace h := rz_t c_8 h
            exact tP_addSum_49 F hC ih a0 r1 x2 x3 x4 _ _ _ _ _ _ h hR (lv_sub hl [0, 1, 2, 3, 4] rfl)
          · replace h := rz_f c_8 h
            refine lv_aload_n hx hb dP_addSum_40 rfl (lv_at hl 0 rfl) ?_
            obtain ⟨c_9, h⟩ := rz_chk h
            obtain ⟨q_13, M_11, h_12, h⟩ := rz_c h
            refine rc_V (rest := []) (As := []) hx hb (hl.1.trans hml.symm) hown hK hR hRm mfP_peek kl_P_64 hk_P rfl rfl c_9 (by simp [cat_rf, cat_i, cat_a, cat_l, cat_n]) (hC 17 _ _ _ _ h_12) dP_addSum_41 (fun v1 H locs cells slots ev hR => ?_) (fun x1 q1 ce1 H locs cells slots ex hR g1 g2 g3 => ?_)
            · rcases h with ⟨v_10, ev2, h⟩ | ⟨e2, ee2, -⟩
              · cases ev.symm.trans ev2
                replace h := rz_i h
                obtain ⟨x_14, rfl, h⟩ := h
                dsimp only [Option.toList, List.cons_append, List.nil_append]
                refine lv_bipush (v := 45) hx hb dP_addSum_44 (by decide) ?_
                refine lv_icmp_ne (tgt := 76) hx hb dP_addSum_46 (by decide) (fun c_15 => ?_) (fun c_15 => ?_)
                · replace h := rz_f c_15 h
                  exact tP_addSum_76 F hC _ _ _ _ _ _ h hR (lv_sub hl [] rfl)
                · replace h := rz_t c_15 h
                  exact tP_addSum_49 F hC ih a0 r1 x2 x3 x4 _ _ _ _ _ _ h hR (lv_sub hl [0, 1, 2, 3, 4] rfl)
              · cases ev.symm.trans ee2
            · rcases h with ⟨v2, ev2, -⟩ | ⟨e2, ee2, h⟩
              · cases ex.symm.trans ev2
              · cases ex.symm.trans ee2
                cases h
                exact rt_x hlk hex hR g1 g2 g3
        · cases ev.symm.trans ee2
      · rcases h with ⟨v2, ev2, -⟩ | ⟨e2, ee2, h⟩
        · cases ex.symm.trans ev2
        · cases ex.symm.trans ee2
          cases h
          exact rt_x hlk hex hR g1 g2 g3
def fP_addSum_17 (n d : Nat) (C : Cx) (a0 : Nat) (r1 : Option Nat) (x2 : Int32) (x3 : Int32) (xs0 : Int32) (rs1 : Option Nat) (as2 : Nat) (M : Mem) : Rz := if mK M as2 = 2 then (rzC (C 38 [.ref as2, va_rf rs1, .int xs0, .int x3] M) fun v_2 M_3 => (rzV v_2 (fP_addSum_24 n d C n a0 r1 x2 x3 0 M_3))) else none
set_option maxRecDepth 100000 in
set_option maxHeartbeats 4000000 in
theorem tP_addSum_17 {n : Nat} (F : FX p s m meth c G R M0 d "HeadCount$Parser" bP_addSum 5 none) (hC : CBs l G d C) : ∀ (a0 : Nat) (r1 : Option Nat) (x2 : Int32) (x3 : Int32) (xs0 : Int32) (rs1 : Option Nat) (as2 : Nat) (M : Mem) (H : Heap) (locs : List Loc) (cells slots : Nat) (ls : Array Slot), fP_addSum_17 n d C a0 r1 x2 x3 xs0 rs1 as2 M = some (r, M') → RL G M0 M H locs cells slots → lv_has ls 5 [(0, .ref a0), (1, va_rf r1), (2, .int x2), (3, .int x3)] → W p l e R s m args below meth c H locs cells slots (CQ G below s M0 r M') (F0 m 17 ls [.int xs0, va_rf rs1, .ref as2]) := by
  obtain ⟨hx, hb, hml, hown, hrt, hlk, hex, hK, hRm⟩ := id F
  intro a0 r1 x2 x3 xs0 rs1 as2 M H locs cells slots ls h hR hl
  unfold fP_addSum_17 at h
  refine lv_iload_n hx hb dP_addSum_17 rfl (lv_at hl 3 rfl) ?_
  obtain ⟨c_1, h⟩ := rz_chk h
  obtain ⟨q_5, M_3, h_4, h⟩ := rz_c h
  refine rc_V (rest := []) (As := [va_rf rs1, .int xs0, .int x3]) hx hb (hl.1.trans hml.symm) hown hK hR hRm mfP_addPart kl_P_137 hk_P rfl rfl c_1 (by simp [cat_rf, cat_i, cat_a, cat_l, cat_n]) (hC 38 _ _ _ _ h_4) dP_addSum_18 (fun v1 H locs cells slots ev hR => ?_) (fun x1 q1 ce1 H locs cells slots ex hR g1 g2 g3 => ?_)
  · rcases h with ⟨v_2, ev2, h⟩ | ⟨e2, ee2, -⟩
    · cases ev.symm.trans ev2
      replace h := rz_v h
      obtain ⟨rfl, h⟩ := h
      dsimp only [Option.toList, List.cons_append, List.nil_append]
      refine lv_iconst (v := 0) hx hb dP_addSum_21 (by decide) ?_
      refine lv_istore (lv' := [(4, .int 0), (0, .ref a0), (1, va_rf r1), (2, .int x2), (3, .int x3)]) hx hb dP_addSum_22 hl (by decide) rfl (fun ls hl => ?_)
      exact tP_addSum_24 F hC n a0 r1 x2 x3 0 _ _ _ _ _ _ h hR (lv_sub hl [1, 2, 3, 4, 0] rfl)
    · cases ev.symm.trans ee2
  · rcases h with ⟨v2, ev2, -⟩ | ⟨e2, ee2, h⟩
    · cases ex.symm.trans ev2
    · cases ex.symm.trans ee2
      cases h
      exact rt_x hlk hex hR g1 g2 g3
def fP_addSum_0 (n d : Nat) (C : Cx) (a0 : Nat) (r1 : Option Nat) (x2 : Int32) (x3 : Int32) (M : Mem) : Rz := if mK M a0 = 2 then (rzC (C 31 [.ref a0, .int 45] M) fun v_2 M_3 => (rzI v_2 fun x_6 => (if x_6 = 0 then (fP_addSum_17 n d C a0 r1 x2 x3 x2 r1 a0 M_3) else (fP_addSum_17 n d C a0 r1 x2 x3 (-x2) r1 a0 M_3)))) else none
set_option maxRecDepth 100000 in
set_option maxHeartbeats 4000000 in
theorem tP_addSum_0 {n : Nat} (F : FX p s m meth c G R M0 d "HeadCount$Parser" bP_addSum 5 none) (hC : CBs l G d C) : ∀ (a0 : Nat) (r1 : Option Nat) (x2 : Int32) (x3 : Int32) (M : Mem) (H : Heap) (locs : List Loc) (cells slots : Nat) (ls : Array Slot), fP_addSum_0 n d C a0 r1 x2 x3 M = some (r, M') → RL G M0 M H locs cells slots → lv_has ls 5 [(0, .ref a0), (1, va_rf r1), (2, .int x2), (3, .int x3)] → W p l e R s m args below meth c H locs cells slots (CQ G below s M0 r M') (F0 m 0 ls []) := by
  obtain ⟨hx, hb, hml, hown, hrt, hlk, hex, hK, hRm⟩ := id F
  intro a0 r1 x2 x3 M H locs cells slots ls h hR hl
  unfold fP_addSum_0 at h
  refine lv_aload_n hx hb dP_addSum_0 rfl (lv_at hl 0 rfl) ?_
  refine lr_aload_n hx hb dP_addSum_1 rfl (lv_at hl 1 rfl) ?_
  refine lv_aload_n hx hb dP_addSum_2 rfl (lv_at hl 0 rfl) ?_
  refine lv_bipush (v := 45) hx hb dP_addSum_3 (by decide) ?_
  obtain ⟨c_1, h⟩ := rz_chk h
  obtain ⟨q_5, M_3, h_4, h⟩ := rz_c h
  refine rc_V (rest := [va_rf r1, .ref a0]) (As := [.int 45]) hx hb (hl.1.trans hml.symm) hown hK hR hRm mfP_take kl_P_76 hk_P rfl rfl c_1 (by simp [cat_rf, cat_i, cat_a, cat_l, cat_n]) (hC 31 _ _ _ _ h_4) dP_addSum_5 (fun v1 H locs cells slots ev hR => ?_) (fun x1 q1 ce1 H locs cells slots ex hR g1 g2 g3 => ?_)
  · rcases h with ⟨v_2, ev2, h⟩ | ⟨e2, ee2, -⟩
    · cases ev.symm.trans ev2
      replace h := rz_i h
      obtain ⟨x_6, rfl, h⟩ := h
      dsimp only [Option.toList, List.cons_append, List.nil_append]
      refine lv_if_eq (tgt := 16) hx hb dP_addSum_8 (by decide) (fun c_7 => ?_) (fun c_7 => ?_)
      · replace h := rz_t c_7 h
        refine lv_iload_n hx hb dP_addSum_16 rfl (lv_at hl 2 rfl) ?_
        exact tP_addSum_17 F hC a0 r1 x2 x3 x2 r1 a0 _ _ _ _ _ _ h hR (lv_sub hl [0, 1, 2, 3] rfl)
      · replace h := rz_f c_7 h
        refine lv_iload_n hx hb dP_addSum_11 rfl (lv_at hl 2 rfl) ?_
        refine lv_ineg hx hb dP_addSum_12 ?_
        refine lv_goto (tgt := 17) hx hb dP_addSum_13 (by decide) ?_
        exact tP_addSum_17 F hC a0 r1 x2 x3 (-x2) r1 a0 _ _ _ _ _ _ h hR (lv_sub hl [0, 1, 2, 3] rfl)
    · cases ev.symm.trans ee2
  · rcases h with ⟨v2, ev2, -⟩ | ⟨e2, ee2, h⟩
    · cases ex.symm.trans ev2
    · cases ex.symm.trans ee2
      cases h
      exact rt_x hlk hex hR g1 g2 g3
set_option maxRecDepth 100000 in
set_option maxHeartbeats 4000000 in
theorem sP_addSum {l : Launch} {G : Gx} {n d : Nat} {C : Cx} (hC : CBs l G d C) (a0 : Nat) (r1 : Option Nat) (x2 : Int32) (x3 : Int32) {M M' : Mem} {r : Option Value ⊕ Nat} (h : fP_addSum_0 n d C a0 r1 x2 x3 M = some (r, M')) : CB l G (d + 1) yP_addSum [.ref a0, va_rf r1, .int x2, .int x3] M r M' := by
  intro p e R s m below meth c hx hn hm hc hlk hK hR hcap hS hU hfr hlo hrc hrs
  obtain ⟨hb, hml, hrt, hex, hown⟩ := fx_of hn hm hc (hK.w mfP_addSum.2.2.1 rfl #[])
  have F : FX p s m meth c G R M d "HeadCount$Parser" bP_addSum 5 none := ⟨hx, hb, hml, hown, hrt, hlk, hex, hK, hfr, hlo, by rw [← hcap]; exact hrc, hrs⟩
  rw [hml]
  have hl := lv_entry ([.ref a0, va_rf r1, .int x2, .int x3]) (n := 5) (by simp [lg_sl, cat_rf, cat_i, cat_a, cat_l, cat_n])
  rw [lg_entry_eq]
  generalize (lg_sl ([.ref a0, va_rf r1, .int x2, .int x3]) ++ List.replicate (5 - (lg_sl ([.ref a0, va_rf r1, .int x2, .int x3])).length) Slot.unset).toArray = ls at hl ⊢
  have hl : lv_has ls 5 [(0, .ref a0), (1, va_rf r1), (2, .int x2), (3, .int x3)] := by simpa [lv_args, cat_rf, cat_i, cat_a, cat_l, cat_n] using hl
  exact tP_addSum_0 F hC a0 r1 x2 x3 _ _ _ _ _ _ h (RL.start hR hcap hS hU) (lv_sub hl [0, 1, 2, 3] rfl)
def fP_addPart_59 (n d : Nat) (C : Cx) (r1 : Option Nat) (x4 : Int32) (rs0 : Option Nat) (M : Mem) : Rz := rzD rs0 fun a_1 => (if mK M a_1 = 4 then (rzM (setI M a_1 1 x4) fun M_4 => (rzD r1 fun a_7 => (if mK M_4 a_7 = 4 then (rzD rs0 fun a_10 => (if mK M_4 a_10 = 4 then (rzM (setP M_4 a_10 4 (mP M_4 a_7 3)) fun M_13 => (rzD r1 fun a_18 => (if mK M_13 a_18 = 4 then (rzM (setP M_13 a_18 3 rs0) fun M_21 => (some (.inl none, M_21))) else none))) else none)) else none))) else none)
set_option maxRecDepth 100000 in
set_option maxHeartbeats 4000000 in
theorem tP_addPart_59 {n : Nat} (F : FX p s m meth c G R M0 d "HeadCount$Parser" bP_addPart 7 none) (hC : CBs l G d C) : ∀ (r1 : Option Nat) (x4 : Int32) (rs0 : Option Nat) (M : Mem) (H : Heap) (locs : List Loc) (cells slots : Nat) (ls : Array Slot), fP_addPart_59 n d C r1 x4 rs0 M = some (r, M') → RL G M0 M H locs cells slots → lv_has ls 7 [(1, va_rf r1), (4, .int x4)] → W p l e R s m args below meth c H locs cells slots (CQ G below s M0 r M') (F0 m 59 ls [va_rf rs0]) := by
  obtain ⟨hx, hb, hml, hown, hrt, hlk, hex, hK, hRm⟩ := id F
  intro r1 x4 rs0 M H locs cells slots ls h hR hl
  unfold fP_addPart_59 at h
  refine lr_astore (lv' := [(6, va_rf rs0), (1, va_rf r1), (4, .int x4)]) hx hb dP_addPart_59 hl (by decide) rfl (fun ls hl => ?_)
  refine lr_aload hx hb dP_addPart_61 (lv_at hl 0 rfl) ?_
  refine lv_iload hx hb dP_addPart_63 (lv_at hl 2 rfl) ?_
  obtain ⟨a_1, e_2, h⟩ := rz_d h
  rw [e_2]
  obtain ⟨c_3, h⟩ := rz_chk h
  obtain ⟨M_4, q_5, h⟩ := rz_m h
  refine rg_putI hx hb hown hK hR hk_N 1 (by decide) kf_P_127 rfl rfl (ty := .int) (by decide +kernel) (Or.inl rfl) rfl c_3 dP_addPart_65 (fun H locs hR => ?_)
  rw [← q_5] at hR
  have c_6 : mK M_4 a_1 = 4 := by rw [q_5]; exact c_3
  refine lr_aload hx hb dP_addPart_68 (lv_at hl 0 rfl) ?_
  refine lr_aload_n hx hb dP_addPart_70 rfl (lv_at hl 1 rfl) ?_
  obtain ⟨a_7, e_8, h⟩ := rz_d h
  rw [e_8]
  obtain ⟨c_9, h⟩ := rz_chk h
  refine rg_getP hx hb hown hK hR hk_N 3 (by decide) kf_P_72 rfl c_9 dP_addPart_71 ?_
  obtain ⟨a_10, e_11, h⟩ := rz_d h
  rw [e_11]
  obtain ⟨c_12, h⟩ := rz_chk h
  obtain ⟨M_13, q_14, h⟩ := rz_m h
  refine rg_putP (r := mP M_4 a_7 3) hx hb hown hK hR hk_N 4 (by decide) kf_P_80 rfl rfl (ty := .object "HeadCount$Node") (by decide +kernel) (Or.inl ⟨_, rfl⟩) c_12 dP_addPart_74 (fun H locs hR => ?_)
  rw [← q_14] at hR
  have c_15 : mK M_13 a_1 = 4 := by rw [q_14]; exact c_6
  have c_16 : mK M_13 a_7 = 4 := by rw [q_14]; exact c_9
  have c_17 : mK M_13 a_10 = 4 := by rw [q_14]; exact c_12
  refine lr_aload_n hx hb dP_addPart_77 rfl (lv_at hl 1 rfl) ?_
  refine lr_aload hx hb dP_addPart_78 (lv_at hl 0 rfl) ?_
  obtain ⟨a_18, e_19, h⟩ := rz_d h
  rw [e_19]
  obtain ⟨c_20, h⟩ := rz_chk h
  obtain ⟨M_21, q_22, h⟩ := rz_m h
  refine rg_putP (r := rs0) hx hb hown hK hR hk_N 3 (by decide) kf_P_72 rfl rfl (ty := .object "HeadCount$Node") (by decide +kernel) (Or.inl ⟨_, rfl⟩) c_20 dP_addPart_80 (fun H locs hR => ?_)
  rw [← q_22] at hR
  have c_23 : mK M_21 a_1 = 4 := by rw [q_22]; exact c_15
  have c_24 : mK M_21 a_7 = 4 := by rw [q_22]; exact c_16
  have c_25 : mK M_21 a_10 = 4 := by rw [q_22]; exact c_17
  have c_26 : mK M_21 a_18 = 4 := by rw [q_22]; exact c_20
  cases h
  exact rt_v hx hb hlk hrt hR dP_addPart_83
def fP_addPart_40 (n d : Nat) (C : Cx) (a0 : Nat) (r1 : Option Nat) (x3 : Int32) (x4 : Int32) (x5 : Int32) (M : Mem) : Rz := if x5 = 0 then (if mK M a0 = 2 then (rzC (C 39 [.ref a0, .int x3] M) fun v_3 M_4 => (rzP v_3 fun r_7 => (fP_addPart_59 n d C r1 x4 r_7 M_4))) else none) else (if mK M a0 = 2 then (rzC (C 20 [.ref a0, .int 49] M) fun v_9 M_10 => (rzP v_9 fun r_13 => (fP_addPart_59 n d C r1 x4 r_13 M_10))) else none)
set_option maxRecDepth 100000 in
set_option maxHeartbeats 4000000 in
theorem tP_addPart_40 {n : Nat} (F : FX p s m meth c G R M0 d "HeadCount$Parser" bP_addPart 7 none) (hC : CBs l G d C) : ∀ (a0 : Nat) (r1 : Option Nat) (x3 : Int32) (x4 : Int32) (x5 : Int32) (M : Mem) (H : Heap) (locs : List Loc) (cells slots : Nat) (ls : Array Slot), fP_addPart_40 n d C a0 r1 x3 x4 x5 M = some (r, M') → RL G M0 M H locs cells slots → lv_has ls 7 [(0, .ref a0), (1, va_rf r1), (3, .int x3), (4, .int x4), (5, .int x5)] → W p l e R s m args below meth c H locs cells slots (CQ G below s M0 r M') (F0 m 40 ls []) := by
  obtain ⟨hx, hb, hml, hown, hrt, hlk, hex, hK, hRm⟩ := id F
  intro a0 r1 x3 x4 x5 M H locs cells slots ls h hR hl
  unfold fP_addPart_40 at h
  refine lv_iload hx hb dP_addPart_40 (lv_at hl 4 rfl) ?_
  refine lv_if_eq (tgt := 54) hx hb dP_addPart_42 (by decide) (fun c_1 => ?_) (fun c_1 => ?_)
  · replace h := rz_t c_1 h
    refine lv_aload_n hx hb dP_addPart_54 rfl (lv_at hl 0 rfl) ?_
    refine lv_iload_n hx hb dP_addPart_55 rfl (lv_at hl 2 rfl) ?_
    obtain ⟨c_2, h⟩ := rz_chk h
    obtain ⟨q_6, M_4, h_5, h⟩ := rz_c h
    refine rc_V (rest := []) (As := [.int x3]) hx hb (hl.1.trans hml.symm) hown hK hR hRm mfP_thing kl_P_140 hk_P rfl rfl c_2 (by simp [cat_rf, cat_i, cat_a, cat_l, cat_n]) (hC 39 _ _ _ _ h_5) dP_addPart_56 (fun v1 H locs cells slots ev hR => ?_) (fun x1 q1 ce1 H locs cells slots ex hR g1 g2 g3 => ?_)
    · rcases h with ⟨v_3, ev2, h⟩ | ⟨e2, ee2, -⟩
      · cases ev.symm.trans ev2
        replace h := rz_p h
        obtain ⟨r_7, rfl, h⟩ := h
        dsimp only [Option.toList, List.cons_append, List.nil_append]
        exact tP_addPart_59 F hC r1 x4 r_7 _ _ _ _ _ _ h hR (lv_sub hl [1, 3] rfl)
      · cases ev.symm.trans ee2
    · rcases h with ⟨v2, ev2, -⟩ | ⟨e2, ee2, h⟩
      · cases ex.symm.trans ev2
      · cases ex.symm.trans ee2
        cases h
        exact rt_x hlk hex hR g1 g2 g3
  · replace h := rz_f c_1 h
    refine lv_aload_n hx hb dP_addPart_45 rfl (lv_at hl 0 rfl) ?_
    refine lv_bipush (v := 49) hx hb dP_addPart_46 (by decide) ?_
    obtain ⟨c_8, h⟩ := rz_chk h
    obtain ⟨q_12, M_10, h_11, h⟩ := rz_c h
    refine rc_V (rest := []) (As := [.int 49]) hx hb (hl.1.trans hml.symm) hown hK hR hRm mfP_make kl_P_68 hk_P rfl rfl c_8 (by simp [cat_rf, cat_i, cat_a, cat_l, cat_n]) (hC 20 _ _ _ _ h_11) dP_addPart_48 (fun v1 H locs cells slots ev hR => ?_) (fun x1 q1 ce1 H locs cells slots ex hR g1 g2 g3 => ?_)
    · rcases h with ⟨v_9, ev2, h⟩ | ⟨e2, ee2, -⟩
      · cases ev.symm.trans ev2
        replace h := rz_p h
        obtain ⟨r_13, rfl, h⟩ := h
        dsimp only [Option.toList, List.cons_append, List.nil_append]
        refine lv_goto (tgt := 59) hx hb dP_addPart_51 (by decide) ?_
        exact tP_addPart_59 F hC r1 x4 r_13 _ _ _ _ _ _ h hR (lv_sub hl [1, 3] rfl)
      · cases ev.symm.trans ee2
    · rcases h with ⟨v2, ev2, -⟩ | ⟨e2, ee2, h⟩
      · cases ex.symm.trans ev2
      · cases ex.symm.trans ee2
        cases h
        exact rt_x hlk hex hR g1 g2 g3
def fP_addPart_38 (n d : Nat) (C : Cx) (a0 : Nat) (r1 : Option Nat) (x3 : Int32) (x4 : Int32) (xs0 : Int32) (M : Mem) : Rz := fP_addPart_40 n d C a0 r1 x3 x4 xs0 M
set_option maxRecDepth 100000 in
set_option maxHeartbeats 4000000 in
theorem tP_addPart_38 {n : Nat} (F : FX p s m meth c G R M0 d "HeadCount$Parser" bP_addPart 7 none) (hC : CBs l G d C) : ∀ (a0 : Nat) (r1 : Option Nat) (x3 : Int32) (x4 : Int32) (xs0 : Int32) (M : Mem) (H : Heap) (locs : List Loc) (cells slots : Nat) (ls : Array Slot), fP_addPart_38 n d C a0 r1 x3 x4 xs0 M = some (r, M') → RL G M0 M H locs cells slots → lv_has ls 7 [(0, .ref a0), (1, va_rf r1), (3, .int x3), (4, .int x4)] → W p l e R s m args below meth c H locs cells slots (CQ G below s M0 r M') (F0 m 38 ls [.int xs0]) := by
  obtain ⟨hx, hb, hml, hown, hrt, hlk, hex, hK, hRm⟩ := id F
  intro a0 r1 x3 x4 xs0 M H locs cells slots ls h hR hl
  unfold fP_addPart_38 at h
  refine lv_istore (lv' := [(5, .int xs0), (0, .ref a0), (1, va_rf r1), (3, .int x3), (4, .int x4)]) hx hb dP_addPart_38 hl (by decide) rfl (fun ls hl => ?_)
  exact tP_addPart_40 F hC a0 r1 x3 x4 xs0 _ _ _ _ _ _ h hR (lv_sub hl [1, 2, 3, 4, 0] rfl)
def fP_addPart_0 (n d : Nat) (C : Cx) (a0 : Nat) (r1 : Option Nat) (x2 : Int32) (x3 : Int32) (M : Mem) : Rz := if mK M a0 = 2 then (rzC (C 17 [.ref a0] M) fun v_2 M_3 => (rzI v_2 fun x_6 => (rzC (C 34 [.int x_6] M_3) fun v_7 M_8 => (rzI v_7 fun x_11 => (if x_11 = 0 then (fP_addPart_40 n d C a0 r1 x3 x2 0 M_8) else (if mK M_8 a0 = 2 then (rzC (C 35 [.ref a0] M_8) fun v_14 M_15 => (rzI v_14 fun x_18 => (if mK M_15 a0 = 2 then (rzC (C 31 [.ref a0, .int 42] M_15) fun v_20 M_21 => (rzI v_20 fun x_24 => (if x_24 = 0 then (fP_addPart_38 n d C a0 r1 x3 (x2 * x_18) 1 M_21) else (fP_addPart_38 n d C a0 r1 x3 (x2 * x_18) 0 M_21)))) else none))) else none)))))) else none
set_option maxRecDepth 100000 in
set_option maxHeartbeats 4000000 in
theorem tP_addPart_0 {n : Nat} (F : FX p s m meth c G R M0 d "HeadCount$Parser" bP_addPart 7 none) (hC : CBs l G d C) : ∀ (a0 : Nat) (r1 : Option Nat) (x2 : Int32) (x3 : Int32) (M : Mem) (H : Heap) (locs : List Loc) (cells slots : Nat) (ls : Array Slot), fP_addPart_0 n d C a0 r1 x2 x3 M = some (r, M') → RL G M0 M H locs cells slots → lv_has ls 7 [(0, .ref a0), (1, va_rf r1), (2, .int x2), (3, .int x3)] → W p l e R s m args below meth c H locs cells slots (CQ G below s M0 r M') (F0 m 0 ls []) := by
  obtain ⟨hx, hb, hml, hown, hrt, hlk, hex, hK, hRm⟩ := id F
  intro a0 r1 x2 x3 M H locs cells slots ls h hR hl
  unfold fP_addPart_0 at h
  refine lv_iload_n hx hb dP_addPart_0 rfl (lv_at hl 2 rfl) ?_
  refine lv_istore (lv' := [(4, .int x2), (0, .ref a0), (1, va_rf r1), (2, .int x2), (3, .int x3)]) hx hb dP_addPart_1 hl (by decide) rfl (fun ls hl => ?_)
  refine lv_iconst (v := 0) hx hb dP_addPart_3 (by decide) ?_
  refine lv_istore (lv' := [(5, .int 0), (4, .int x2), (0, .ref a0), (1, va_rf r1), (2, .int x2), (3, .int x3)]) hx hb dP_addPart_4 hl (by decide) rfl (fun ls hl => ?_)
  refine lv_aload_n hx hb dP_addPart_6 rfl (lv_at hl 2 rfl) ?_
  obtain ⟨c_1, h⟩ := rz_chk h
  obtain ⟨q_5, M_3, h_4, h⟩ := rz_c h
  refine rc_V (rest := []) (As := []) hx hb (hl.1.trans hml.symm) hown hK hR hRm mfP_peek kl_P_64 hk_P rfl rfl c_1 (by simp [cat_rf, cat_i, cat_a, cat_l, cat_n]) (hC 17 _ _ _ _ h_4) dP_addPart_7 (fun v1 H locs cells slots ev hR => ?_) (fun x1 q1 ce1 H locs cells slots ex hR g1 g2 g3 => ?_)
  · rcases h with ⟨v_2, ev2, h⟩ | ⟨e2, ee2, -⟩
    · cases ev.symm.trans ev2
      replace h := rz_i h
      obtain ⟨x_6, rfl, h⟩ := h
      dsimp only [Option.toList, List.cons_append, List.nil_append]
      obtain ⟨q_10, M_8, h_9, h⟩ := rz_c h
      refine rc_S (rest := []) (As := [.int x_6]) hx hb (hl.1.trans hml.symm) hown hK hR hRm mfP_isDecimal kl_P_121 rfl (by simp [cat_rf, cat_i, cat_a, cat_l, cat_n]) (hC 34 _ _ _ _ h_9) dP_addPart_10 (fun v1 H locs cells slots ev hR => ?_) (fun x1 q1 ce1 H locs cells slots ex hR g1 g2 g3 => ?_)
      · rcases h with ⟨v_7, ev2, h⟩ | ⟨e2, ee2, -⟩
        · cases ev.symm.trans ev2
          replace h := rz_i h
          obtain ⟨x_11, rfl, h⟩ := h
          dsimp only [Option.toList, List.cons_append, List.nil_append]
          refine lv_if_eq (tgt := 40) hx hb dP_addPart_13 (by decide) (fun c_12 => ?_) (fun c_12 => ?_)
          · replace h := rz_t c_12 h
            exact tP_addPart_40 F hC a0 r1 x3 x2 0 _ _ _ _ _ _ h hR (lv_sub hl [2, 3, 5, 1, 0] rfl)
          · replace h := rz_f c_12 h
            refine lv_iload_n hx hb dP_addPart_16 rfl (lv_at hl 4 rfl) ?_
            refine lv_aload_n hx hb dP_addPart_17 rfl (lv_at hl 2 rfl) ?_
            obtain ⟨c_13, h⟩ := rz_chk h
            obtain ⟨q_17, M_15, h_16, h⟩ := rz_c h
            refine rc_V (rest := [.int x2]) (As := []) hx hb (hl.1.trans hml.symm) hown hK hR hRm mfP_number kl_P_124 hk_P rfl rfl c_13 (by simp [cat_rf, cat_i, cat_a, cat_l, cat_n]) (hC 35 _ _ _ _ h_16) dP_addPart_18 (fun v1 H locs cells slots ev hR => ?_) (fun x1 q1 ce1 H locs cells slots ex hR g1 g2 g3 => ?_)
            · rcases h with ⟨v_14, ev2, h⟩ | ⟨e2, ee2, -⟩
              · cases ev.symm.trans ev2
                replace h := rz_i h
                obtain ⟨x_18, rfl, h⟩ := h
                dsimp only [Option.toList, List.cons_append, List.nil_append]
                refine lv_imul hx hb dP_addPart_21 ?_
                refine lv_istore (lv' := [(4, .int (x2 * x_18)), (5, .int 0), (0, .ref a0), (1, va_rf r1), (2, .int x2), (3, .int x3)]) hx hb dP_addPart_22 hl (by decide) rfl (fun ls hl => ?_)
                refine lv_aload_n hx hb dP_addPart_24 rfl (lv_at hl 2 rfl) ?_
                refine lv_bipush (v := 42) hx hb dP_addPart_25 (by decide) ?_
                obtain ⟨c_19, h⟩ := rz_chk h
                obtain ⟨q_23, M_21, h_22, h⟩ := rz_c h
                refine rc_V (rest := []) (As := [.int 42]) hx hb (hl.1.trans hml.symm) hown hK hR hRm mfP_take kl_P_76 hk_P rfl rfl c_19 (by simp [cat_rf, cat_i, cat_a, cat_l, cat_n]) (hC 31 _ _ _ _ h_22) dP_addPart_27 (fun v1 H locs cells slots ev hR => ?_) (fun x1 q1 ce1 H locs cells slots ex hR g1 g2 g3 => ?_)
                · rcases h with ⟨v_20, ev2, h⟩ | ⟨e2, ee2, -⟩
                  · cases ev.symm.trans ev2
                    replace h := rz_i h
                    obtain ⟨x_24, rfl, h⟩ := h
                    dsimp only [Option.toList, List.cons_append, List.nil_append]
                    refine lv_if_ne (tgt := 37) hx hb dP_addPart_30 (by decide) (fun c_25 => ?_) (fun c_25 => ?_)
                    · replace h := rz_f c_25 h
                      refine lv_iconst (v := 0) hx hb dP_addPart_37 (by decide) ?_
                      exact tP_addPart_38 F hC a0 r1 x3 (x2 * x_18) 0 _ _ _ _ _ _ h hR (lv_sub hl [2, 3, 5, 0] rfl)
                    · replace h := rz_t c_25 h
                      refine lv_iconst (v := 1) hx hb dP_addPart_33 (by decide) ?_
                      refine lv_goto (tgt := 38) hx hb dP_addPart_34 (by decide) ?_
                      exact tP_addPart_38 F hC a0 r1 x3 (x2 * x_18) 1 _ _ _ _ _ _ h hR (lv_sub hl [2, 3, 5, 0] rfl)
                  · cases ev.symm.trans ee2
                · rcases h with ⟨v2, ev2, -⟩ | ⟨e2, ee2, h⟩
                  · cases ex.symm.trans ev2
                  · cases ex.symm.trans ee2
                    cases h
                    exact rt_x hlk hex hR g1 g2 g3
              · cases ev.symm.trans ee2
            · rcases h with ⟨v2, ev2, -⟩ | ⟨e2, ee2, h⟩
              · cases ex.symm.trans ev2
              · cases ex.symm.trans ee2
                cases h
                exact rt_x hlk hex hR g1 g2 g3
        · cases ev.symm.trans ee2
      · rcases h with ⟨v2, ev2, -⟩ | ⟨e2, ee2, h⟩
        · cases ex.symm.trans ev2
        · cases ex.symm.trans ee2
          cases h
          exact rt_x hlk hex hR g1 g2 g3
    · cases ev.symm.trans ee2
  · rcases h with ⟨v2, ev2, -⟩ | ⟨e2, ee2, h⟩
    · cases ex.symm.trans ev2
    · cases ex.symm.trans ee2
      cases h
      exact rt_x hlk hex hR g1 g2 g3
set_option maxRecDepth 100000 in
set_option maxHeartbeats 4000000 in
theorem sP_addPart {l : Launch} {G : Gx} {n d : Nat} {C : Cx} (hC : CBs l G d C) (a0 : Nat) (r1 : Option Nat) (x2 : Int32) (x3 : Int32) {M M' : Mem} {r : Option Value ⊕ Nat} (h : fP_addPart_0 n d C a0 r1 x2 x3 M = some (r, M')) : CB l G (d + 1) yP_addPart [.ref a0, va_rf r1, .int x2, .int x3] M r M' := by
  intro p e R s m below meth c hx hn hm hc hlk hK hR hcap hS hU hfr hlo hrc hrs
  obtain ⟨hb, hml, hrt, hex, hown⟩ := fx_of hn hm hc (hK.w mfP_addPart.2.2.1 rfl #[])
  have F : FX p s m meth c G R M d "HeadCount$Parser" bP_addPart 7 none := ⟨hx, hb, hml, hown, hrt, hlk, hex, hK, hfr, hlo, by rw [← hcap]; exact hrc, hrs⟩
  rw [hml]
  have hl := lv_entry ([.ref a0, va_rf r1, .int x2, .int x3]) (n := 7) (by simp [lg_sl, cat_rf, cat_i, cat_a, cat_l, cat_n])
  rw [lg_entry_eq]
  generalize (lg_sl ([.ref a0, va_rf r1, .int x2, .int x3]) ++ List.replicate (7 - (lg_sl ([.ref a0, va_rf r1, .int x2, .int x3])).length) Slot.unset).toArray = ls at hl ⊢
  have hl : lv_has ls 7 [(0, .ref a0), (1, va_rf r1), (2, .int x2), (3, .int x3)] := by simpa [lv_args, cat_rf, cat_i, cat_a, cat_l, cat_n] using hl
  exact tP_addPart_0 F hC a0 r1 x2 x3 _ _ _ _ _ _ h (RL.start hR hcap hS hU) (lv_sub hl [0, 1, 2, 3] rfl)
def fP_thing_62 (n d : Nat) (C : Cx) (r3 : Option Nat) (M : Mem) : Rz := some (.inl (some (va_rf r3)), M)
set_option maxRecDepth 100000 in
set_option maxHeartbeats 4000000 in
theorem tP_thing_62 {n : Nat} (F : FX p s m meth c G R M0 d "HeadCount$Parser" bP_thing 4 (some (.object "HeadCount$Node"))) (hC : CBs l G d C) : ∀ (r3 : Option Nat) (M : Mem) (H : Heap) (locs : List Loc) (cells slots : Nat) (ls : Array Slot), fP_thing_62 n d C r3 M = some (r, M') → RL G M0 M H locs cells slots → lv_has ls 4 [(3, va_rf r3)] → W p l e R s m args below meth c H locs cells slots (CQ G below s M0 r M') (F0 m 62 ls []) := by
  obtain ⟨hx, hb, hml, hown, hrt, hlk, hex, hK, hRm⟩ := id F
  intro r3 M H locs cells slots ls h hR hl
  unfold fP_thing_62 at h
  refine lr_aload_n hx hb dP_thing_62 rfl (lv_at hl 0 rfl) ?_
  cases h
  exact rt_a (r := r3) hx hb hlk hrt (Or.inl ⟨_, rfl⟩) hR dP_thing_63
def fP_thing_59 (n d : Nat) (C : Cx) (r3 : Option Nat) (xs0 : Int32) (M : Mem) : Rz := rzC (C 16 [.int xs0] M) fun v_1 M_2 => (rzV v_1 (fP_thing_62 n d C r3 M_2))
set_option maxRecDepth 100000 in
set_option maxHeartbeats 4000000 in
theorem tP_thing_59 {n : Nat} (F : FX p s m meth c G R M0 d "HeadCount$Parser" bP_thing 4 (some (.object "HeadCount$Node"))) (hC : CBs l G d C) : ∀ (r3 : Option Nat) (xs0 : Int32) (M : Mem) (H : Heap) (locs : List Loc) (cells slots : Nat) (ls : Array Slot), fP_thing_59 n d C r3 xs0 M = some (r, M') → RL G M0 M H locs cells slots → lv_has ls 4 [(3, va_rf r3)] → W p l e R s m args below meth c H locs cells slots (CQ G below s M0 r M') (F0 m 59 ls [.int xs0]) := by
  obtain ⟨hx, hb, hml, hown, hrt, hlk, hex, hK, hRm⟩ := id F
  intro r3 xs0 M H locs cells slots ls h hR hl
  unfold fP_thing_59 at h
  obtain ⟨q_4, M_2, h_3, h⟩ := rz_c h
  refine rc_S (rest := []) (As := [.int xs0]) hx hb (hl.1.trans hml.symm) hown hK hR hRm mfP_insist kl_P_51 rfl (by simp [cat_rf, cat_i, cat_a, cat_l, cat_n]) (hC 16 _ _ _ _ h_3) dP_thing_59 (fun v1 H locs cells slots ev hR => ?_) (fun x1 q1 ce1 H locs cells slots ex hR g1 g2 g3 => ?_)
  · rcases h with ⟨v_1, ev2, h⟩ | ⟨e2, ee2, -⟩
    · cases ev.symm.trans ev2
      replace h := rz_v h
      obtain ⟨rfl, h⟩ := h
      dsimp only [Option.toList, List.cons_append, List.nil_append]
      exact tP_thing_62 F hC r3 _ _ _ _ _ _ h hR (lv_sub hl [0] rfl)
    · cases ev.symm.trans ee2
  · rcases h with ⟨v2, ev2, -⟩ | ⟨e2, ee2, h⟩
    · cases ex.symm.trans ev2
    · cases ex.symm.trans ee2
      cases h
      exact rt_x hlk hex hR g1 g2 g3
def fP_thing_0 (n d : Nat) (C : Cx) (a0 : Nat) (x1 : Int32) (M : Mem) : Rz := if mK M a0 = 2 then (rzC (C 19 [.ref a0] M) fun v_2 M_3 => (rzI v_2 fun x_6 => (if mK M_3 a0 = 2 then (rzC (C 20 [.ref a0, .int x_6] M_3) fun v_8 M_9 => (rzP v_8 fun r_12 => (if x_6 = 35 then (if mK M_9 a0 = 2 then (rzC (C 40 [.ref a0, .int (x1 + 1)] M_9) fun v_32 M_33 => (rzP v_32 fun r_36 => (rzD r_12 fun a_37 => (if mK M_33 a_37 = 4 then (rzM (setP M_33 a_37 3 r_36) fun M_40 => (fP_thing_62 n d C r_12 M_40)) else none)))) else none) else (if x_6 = 110 then (fP_thing_62 n d C r_12 M_9) else (if mK M_9 a0 = 2 then (rzC (C 41 [.ref a0, .int x_6] M_9) fun v_16 M_17 => (rzI v_16 fun x_20 => (rzD r_12 fun a_21 => (if mK M_17 a_21 = 4 then (rzM (setI M_17 a_21 2 x_20) fun M_24 => (rzD r_12 fun a_27 => (if mK M_24 a_27 = 4 then (if 3 ≤ (mI M_24 a_27 2) then (fP_thing_59 n d C r_12 0 M_24) else (fP_thing_59 n d C r_12 1 M_24)) else none))) else none)))) else none))))) else none))) else none
set_option maxRecDepth 100000 in
set_option maxHeartbeats 4000000 in
theorem tP_thing_0 {n : Nat} (F : FX p s m meth c G R M0 d "HeadCount$Parser" bP_thing 4 (some (.object "HeadCount$Node"))) (hC : CBs l G d C) : ∀ (a0 : Nat) (x1 : Int32) (M : Mem) (H : Heap) (locs : List Loc) (cells slots : Nat) (ls : Array Slot), fP_thing_0 n d C a0 x1 M = some (r, M') → RL G M0 M H locs cells slots → lv_has ls 4 [(0, .ref a0), (1, .int x1)] → W p l e R s m args below meth c H locs cells slots (CQ G below s M0 r M') (F0 m 0 ls []) := by
  obtain ⟨hx, hb, hml, hown, hrt, hlk, hex, hK, hRm⟩ := id F
  intro a0 x1 M H locs cells slots ls h hR hl
  unfold fP_thing_0 at h
  refine lv_aload_n hx hb dP_thing_0 rfl (lv_at hl 0 rfl) ?_
  obtain ⟨c_1, h⟩ := rz_chk h
  obtain ⟨q_5, M_3, h_4, h⟩ := rz_c h
  refine rc_V (rest := []) (As := []) hx hb (hl.1.trans hml.symm) hown hK hR hRm mfP_next kl_P_112 hk_P rfl rfl c_1 (by simp [cat_rf, cat_i, cat_a, cat_l, cat_n]) (hC 19 _ _ _ _ h_4) dP_thing_1 (fun v1 H locs cells slots ev hR => ?_) (fun x1 q1 ce1 H locs cells slots ex hR g1 g2 g3 => ?_)
  · rcases h with ⟨v_2, ev2, h⟩ | ⟨e2, ee2, -⟩
    · cases ev.symm.trans ev2
      replace h := rz_i h
      obtain ⟨x_6, rfl, h⟩ := h
      dsimp only [Option.toList, List.cons_append, List.nil_append]
      refine lv_istore_n (lv' := [(2, .int x_6), (0, .ref a0), (1, .int x1)]) hx hb dP_thing_4 rfl hl (by decide) rfl (fun ls hl => ?_)
      refine lv_aload_n hx hb dP_thing_5 rfl (lv_at hl 1 rfl) ?_
      refine lv_iload_n hx hb dP_thing_6 rfl (lv_at hl 0 rfl) ?_
      obtain ⟨c_7, h⟩ := rz_chk h
      obtain ⟨q_11, M_9, h_10, h⟩ := rz_c h
      refine rc_V (rest := []) (As := [.int x_6]) hx hb (hl.1.trans hml.symm) hown hK hR hRm mfP_make kl_P_68 hk_P rfl rfl c_7 (by simp [cat_rf, cat_i, cat_a, cat_l, cat_n]) (hC 20 _ _ _ _ h_10) dP_thing_7 (fun v1 H locs cells slots ev hR => ?_) (fun x1 q1 ce1 H locs cells slots ex hR g1 g2 g3 => ?_)
      · rcases h with ⟨v_8, ev2, h⟩ | ⟨e2, ee2, -⟩
        · cases ev.symm.trans ev2
          replace h := rz_p h
          obtain ⟨r_12, rfl, h⟩ := h
          dsimp only [Option.toList, List.cons_append, List.nil_append]
          refine lr_astore_n (lv' := [(3, va_rf r_12), (2, .int x_6), (0, .ref a0), (1, .int x1)]) hx hb dP_thing_10 rfl hl (by decide) rfl (fun ls hl => ?_)
          refine lv_iload_n hx hb dP_thing_11 rfl (lv_at hl 1 rfl) ?_
          refine lv_bipush (v := 35) hx hb dP_thing_12 (by decide) ?_
          refine lv_icmp_ne (tgt := 31) hx hb dP_thing_14 (by decide) (fun c_13 => ?_) (fun c_13 => ?_)
          · replace h := rz_f c_13 h
            refine lv_iload_n hx hb dP_thing_31 rfl (lv_at hl 1 rfl) ?_
            refine lv_bipush (v := 110) hx hb dP_thing_32 (by decide) ?_
            refine lv_icmp_eq (tgt := 62) hx hb dP_thing_34 (by decide) (fun c_14 => ?_) (fun c_14 => ?_)
            · replace h := rz_t c_14 h
              exact tP_thing_62 F hC r_12 _ _ _ _ _ _ h hR (lv_sub hl [0] rfl)
            · replace h := rz_f c_14 h
              refine lr_aload_n hx hb dP_thing_37 rfl (lv_at hl 0 rfl) ?_
              refine lv_aload_n hx hb dP_thing_38 rfl (lv_at hl 2 rfl) ?_
              refine lv_iload_n hx hb dP_thing_39 rfl (lv_at hl 1 rfl) ?_
              obtain ⟨c_15, h⟩ := rz_chk h
              obtain ⟨q_19, M_17, h_18, h⟩ := rz_c h
              refine rc_V (rest := [va_rf r_12]) (As := [.int x_6]) hx hb (hl.1.trans hml.symm) hown hK hR hRm mfP_boundVariable kl_P_143 hk_P rfl rfl c_15 (by simp [cat_rf, cat_i, cat_a, cat_l, cat_n]) (hC 41 _ _ _ _ h_18) dP_thing_40 (fun v1 H locs cells slots ev hR => ?_) (fun x1 q1 ce1 H locs cells slots ex hR g1 g2 g3 => ?_)
              · rcases h with ⟨v_16, ev2, h⟩ | ⟨e2, ee2, -⟩
                · cases ev.symm.trans ev2
                  replace h := rz_i h
                  obtain ⟨x_20, rfl, h⟩ := h
                  dsimp only [Option.toList, List.cons_append, List.nil_append]
                  obtain ⟨a_21, e_22, h⟩ := rz_d h
                  rw [e_22]
                  obtain ⟨c_23, h⟩ := rz_chk h
                  obtain ⟨M_24, q_25, h⟩ := rz_m h
                  refine rg_putI hx hb hown hK hR hk_N 2 (by decide) kf_P_118 rfl rfl (ty := .int) (by decide +kernel) (Or.inl rfl) rfl c_23 dP_thing_43 (fun H locs hR => ?_)
                  rw [← q_25] at hR
                  have c_26 : mK M_24 a_21 = 4 := by rw [q_25]; exact c_23
                  refine lr_aload_n hx hb dP_thing_46 rfl (lv_at hl 0 rfl) ?_
                  obtain ⟨a_27, e_28, h⟩ := rz_d h
                  rw [e_28]
                  obtain ⟨c_29, h⟩ := rz_chk h
                  refine rg_getI hx hb hown hK hR hk_N 2 (by decide) kf_P_118 rfl c_29 dP_thing_47 ?_
                  refine lv_iconst (v := 3) hx hb dP_thing_50 (by decide) ?_
                  refine lv_icmp_ge (tgt := 58) hx hb dP_thing_51 (by decide) (fun c_30 => ?_) (fun c_30 => ?_)
                  · replace h := rz_t c_30 h
                    refine lv_iconst (v := 0) hx hb dP_thing_58 (by decide) ?_
                    exact tP_thing_59 F hC r_12 0 _ _ _ _ _ _ h hR (lv_sub hl [0] rfl)
                  · replace h := rz_f c_30 h
                    refine lv_iconst (v := 1) hx hb dP_thing_54 (by decide) ?_
                    refine lv_goto (tgt := 59) hx hb dP_thing_55 (by decide) ?_
                    exact tP_thing_59 F hC r_12 1 _ _ _ _ _ _ h hR (lv_sub hl [0] rfl)
                · cases ev.symm.trans ee2
              · rcases h with ⟨v2, ev2, -⟩ | ⟨e2, ee2, h⟩
                · cases ex.symm.trans ev2
                · cases ex.symm.trans ee2
                  cases h
                  exact rt_x hlk hex hR g1 g2 g3
          · replace h := rz_t c_13 h
            refine lr_aload_n hx hb dP_thing_17 rfl (lv_at hl 0 rfl) ?_
            refine lv_aload_n hx hb dP_thing_18 rfl (lv_at hl 2 rfl) ?_
            refine lv_iload_n hx hb dP_thing_19 rfl (lv_at hl 3 rfl) ?_
            refine lv_iconst (v := 1) hx hb dP_thing_20 (by decide) ?_
            refine lv_iadd hx hb dP_thing_21 ?_
            obtain ⟨c_31, h⟩ := rz_chk h
            obtain ⟨q_35, M_33, h_34, h⟩ := rz_c h
            refine rc_V (rest := [va_rf r_12]) (As := [.int (x1 + 1)]) hx hb (hl.1.trans hml.symm) hown hK hR hRm mfP_single kl_P_87 hk_P rfl rfl c_31 (by simp [cat_rf, cat_i, cat_a, cat_l, cat_n]) (hC 40 _ _ _ _ h_34) dP_thing_22 (fun v1 H locs cells slots ev hR => ?_) (fun x1 q1 ce1 H locs cells slots ex hR g1 g2 g3 => ?_)
            · rcases h with ⟨v_32, ev2, h⟩ | ⟨e2, ee2, -⟩
              · cases ev.symm.trans ev2
                replace h := rz_p h
                obtain ⟨r_36, rfl, h⟩ := h
                dsimp only [Option.toList, List.cons_append, List.nil_append]
                obtain ⟨a_37, e_38, h⟩ := rz_d h
                rw [e_38]
                obtain ⟨c_39, h⟩ := rz_chk h
                obtain ⟨M_40, q_41, h⟩ := rz_m h
                refine rg_putP (r := r_36) hx hb hown hK hR hk_N 3 (by decide) kf_P_72 rfl rfl (ty := .object "HeadCount$Node") (by decide +kernel) (Or.inl ⟨_, rfl⟩) c_39 dP_thing_25 (fun H locs hR => ?_)
                rw [← q_41] at hR
                have c_42 : mK M_40 a_37 = 4 := by rw [q_41]; exact c_39
                refine lv_goto (tgt := 62) hx hb dP_thing_28 (by decide) ?_
                exact tP_thing_62 F hC r_12 _ _ _ _ _ _ h hR (lv_sub hl [0] rfl)
              · cases ev.symm.trans ee2
            · rcases h with ⟨v2, ev2, -⟩ | ⟨e2, ee2, h⟩
              · cases ex.symm.trans ev2
              · cases ex.symm.trans ee2
                cases h
                exact rt_x hlk hex hR g1 g2 g3
        · cases ev.symm.trans ee2
      · rcases h with ⟨v2, ev2, -⟩ | ⟨e2, ee2, h⟩
        · cases ex.symm.trans ev2
        · cases ex.symm.trans ee2
          cases h
          exact rt_x hlk hex hR g1 g2 g3
    · cases ev.symm.trans ee2
  · rcases h with ⟨v2, ev2, -⟩ | ⟨e2, ee2, h⟩
    · cases ex.symm.trans ev2
    · cases ex.symm.trans ee2
      cases h
      exact rt_x hlk hex hR g1 g2 g3
set_option maxRecDepth 100000 in
set_option maxHeartbeats 4000000 in
theorem sP_thing {l : Launch} {G : Gx} {n d : Nat} {C : Cx} (hC : CBs l G d C) (a0 : Nat) (x1 : Int32) {M M' : Mem} {r : Option Value ⊕ Nat} (h : fP_thing_0 n d C a0 x1 M = some (r, M')) : CB l G (d + 1) yP_thing [.ref a0, .int x1] M r M' := by
  intro p e R s m below meth c hx hn hm hc hlk hK hR hcap hS hU hfr hlo hrc hrs
  obtain ⟨hb, hml, hrt, hex, hown⟩ := fx_of hn hm hc (hK.w mfP_thing.2.2.1 rfl #[])
  have F : FX p s m meth c G R M d "HeadCount$Parser" bP_thing 4 (some (.object "HeadCount$Node")) := ⟨hx, hb, hml, hown, hrt, hlk, hex, hK, hfr, hlo, by rw [← hcap]; exact hrc, hrs⟩
  rw [hml]
  have hl := lv_entry ([.ref a0, .int x1]) (n := 4) (by simp [lg_sl, cat_rf, cat_i, cat_a, cat_l, cat_n])
  rw [lg_entry_eq]
  generalize (lg_sl ([.ref a0, .int x1]) ++ List.replicate (4 - (lg_sl ([.ref a0, .int x1])).length) Slot.unset).toArray = ls at hl ⊢
  have hl : lv_has ls 4 [(0, .ref a0), (1, .int x1)] := by simpa [lv_args, cat_rf, cat_i, cat_a, cat_l, cat_n] using hl
  exact tP_thing_0 F hC a0 x1 _ _ _ _ _ _ h (RL.start hR hcap hS hU) (lv_sub hl [0, 1] rfl)
def fP_single_109 (n d : Nat) (C : Cx) (r3 : Option Nat) (M : Mem) : Rz := some (.inl (some (va_rf r3)), M)
set_option maxRecDepth 100000 in
set_option maxHeartbeats 4000000 in
theorem tP_single_109 {n : Nat} (F : FX p s m meth c G R M0 d "HeadCount$Parser" bP_single 4 (some (.object "HeadCount$Node"))) (hC : CBs l G d C) : ∀ (r3 : Option Nat) (M : Mem) (H : Heap) (locs : List Loc) (cells slots : Nat) (ls : Array Slot), fP_single_109 n d C r3 M = some (r, M') → RL G M0 M H locs cells slots → lv_has ls 4 [(3, va_rf r3)] → W p l e R s m args below meth c H locs cells slots (CQ G below s M0 r M') (F0 m 109 ls []) := by
  obtain ⟨hx, hb, hml, hown, hrt, hlk, hex, hK, hRm⟩ := id F
  intro r3 M H locs cells slots ls h hR hl
  unfold fP_single_109 at h
  refine lr_aload_n hx hb dP_single_109 rfl (lv_at hl 0 rfl) ?_
  cases h
  exact rt_a (r := r3) hx hb hlk hrt (Or.inl ⟨_, rfl⟩) hR dP_single_110
def fP_single_106 (n d : Nat) (C : Cx) (r3 : Option Nat) (xs0 : Int32) (M : Mem) : Rz := rzC (C 16 [.int xs0] M) fun v_1 M_2 => (rzV v_1 (fP_single_109 n d C r3 M_2))
set_option maxRecDepth 100000 in
set_option maxHeartbeats 4000000 in
theorem tP_single_106 {n : Nat} (F : FX p s m meth c G R M0 d "HeadCount$Parser" bP_single 4 (some (.object "HeadCount$Node"))) (hC : CBs l G d C) : ∀ (r3 : Option Nat) (xs0 : Int32) (M : Mem) (H : Heap) (locs : List Loc) (cells slots : Nat) (ls : Array Slot), fP_single_106 n d C r3 xs0 M = some (r, M') → RL G M0 M H locs cells slots → lv_has ls 4 [(3, va_rf r3)] → W p l e R s m args below meth c H locs cells slots (CQ G below s M0 r M') (F0 m 106 ls [.int xs0]) := by
  obtain ⟨hx, hb, hml, hown, hrt, hlk, hex, hK, hRm⟩ := id F
  intro r3 xs0 M H locs cells slots ls h hR hl
  unfold fP_single_106 at h
  obtain ⟨q_4, M_2, h_3, h⟩ := rz_c h
  refine rc_S (rest := []) (As := [.int xs0]) hx hb (hl.1.trans hml.symm) hown hK hR hRm mfP_insist kl_P_51 rfl (by simp [cat_rf, cat_i, cat_a, cat_l, cat_n]) (hC 16 _ _ _ _ h_3) dP_single_106 (fun v1 H locs cells slots ev hR => ?_) (fun x1 q1 ce1 H locs cells slots ex hR g1 g2 g3 => ?_)
  · rcases h with ⟨v_1, ev2, h⟩ | ⟨e2, ee2, -⟩
    · cases ev.symm.trans ev2
      replace h := rz_v h
      obtain ⟨rfl, h⟩ := h
      dsimp only [Option.toList, List.cons_append, List.nil_append]
      exact tP_single_109 F hC r3 _ _ _ _ _ _ h hR (lv_sub hl [0] rfl)
    · cases ev.symm.trans ee2
  · rcases h with ⟨v2, ev2, -⟩ | ⟨e2, ee2, h⟩
    · cases ex.symm.trans ev2
    · cases ex.symm.trans ee2
      cases h
      exact rt_x hlk hex hR g1 g2 g3
def fP_single_11 (n d : Nat) (C : Cx) (a0 : Nat) (x1 : Int32) (xs0 : Int32) (M : Mem) : Rz := rzC (C 16 [.int xs0] M) fun v_1 M_2 => (rzV v_1 (if mK M_2 a0 = 2 then (rzC (C 19 [.ref a0] M_2) fun v_6 M_7 => (rzI v_6 fun x_10 => (if x_10 = 40 then (if mK M_7 a0 = 2 then (rzC (C 13 [.ref a0, .int 43, .int (x1 + 1)] M_7) fun v_50 M_51 => (rzP v_50 fun r_54 => (if mK M_51 a0 = 2 then (rzC (C 31 [.ref a0, .int 41] M_51) fun v_56 M_57 => (rzI v_56 fun x_60 => (rzC (C 16 [.int x_60] M_57) fun v_61 M_62 => (rzV v_61 (some (.inl (some (va_rf r_54)), M_62)))))) else none))) else none) else (if mK M_7 a0 = 2 then (rzC (C 20 [.ref a0, .int x_10] M_7) fun v_13 M_14 => (rzP v_13 fun r_17 => (if x_10 = 45 then (if mK M_14 a0 = 2 then (rzC (C 40 [.ref a0, .int (x1 + 1)] M_14) fun v_38 M_39 => (rzP v_38 fun r_42 => (rzD r_17 fun a_43 => (if mK M_39 a_43 = 4 then (rzM (setP M_39 a_43 3 r_42) fun M_46 => (fP_single_109 n d C r_17 M_46)) else none)))) else none) else (if x_10 = 48 then (fP_single_109 n d C r_17 M_14) else (if x_10 = 49 then (fP_single_109 n d C r_17 M_14) else (if mK M_14 a0 = 2 then (rzC (C 41 [.ref a0, .int x_10] M_14) fun v_22 M_23 => (rzI v_22 fun x_26 => (rzD r_17 fun a_27 => (if mK M_23 a_27 = 4 then (rzM (setI M_23 a_27 2 x_26) fun M_30 => (rzD r_17 fun a_33 => (if mK M_30 a_33 = 4 then (if (mI M_30 a_33 2) < 3 then (fP_single_106 n d C r_17 0 M_30) else (fP_single_106 n d C r_17 1 M_30)) else none))) else none)))) else none)))))) else none)))) else none))
set_option maxRecDepth 100000 in
set_option maxHeartbeats 4000000 in
theorem tP_single_11 {n : Nat} (F : FX p s m meth c G R M0 d "HeadCount$Parser" bP_single 4 (some (.object "HeadCount$Node"))) (hC : CBs l G d C) : ∀ (a0 : Nat) (x1 : Int32) (xs0 : Int32) (M : Mem) (H : Heap) (locs : List Loc) (cells slots : Nat) (ls : Array Slot), fP_single_11 n d C a0 x1 xs0 M = some (r, M') → RL G M0 M H locs cells slots → lv_has ls 4 [(0, .ref a0), (1, .int x1)] → W p l e R s m args below meth c H locs cells slots (CQ G below s M0 r M') (F0 m 11 ls [.int xs0]) := by
  obtain ⟨hx, hb, hml, hown, hrt, hlk, hex, hK, hRm⟩ := id F
  intro a0 x1 xs0 M H locs cells slots ls h hR hl
  unfold fP_single_11 at h
  obtain ⟨q_4, M_2, h_3, h⟩ := rz_c h
  refine rc_S (rest := []) (As := [.int xs0]) hx hb (hl.1.trans hml.symm) hown hK hR hRm mfP_insist kl_P_51 rfl (by simp [cat_rf, cat_i, cat_a, cat_l, cat_n]) (hC 16 _ _ _ _ h_3) dP_single_11 (fun v1 H locs cells slots ev hR => ?_) (fun x1 q1 ce1 H locs cells slots ex hR g1 g2 g3 => ?_)
  · rcases h with ⟨v_1, ev2, h⟩ | ⟨e2, ee2, -⟩
    · cases ev.symm.trans ev2
      replace h := rz_v h
      obtain ⟨rfl, h⟩ := h
      dsimp only [Option.toList, List.cons_append, List.nil_append]
      refine lv_aload_n hx hb dP_single_14 rfl (lv_at hl 0 rfl) ?_
      obtain ⟨c_5, h⟩ := rz_chk h
      obtain ⟨q_9, M_7, h_8, h⟩ := rz_c h
      refine rc_V (rest := []) (As := []) hx hb (hl.1.trans hml.symm) hown hK hR hRm mfP_next kl_P_112 hk_P rfl rfl c_5 (by simp [cat_rf, cat_i, cat_a, cat_l, cat_n]) (hC 19 _ _ _ _ h_8) dP_single_15 (fun v1 H locs cells slots ev hR => ?_) (fun x1 q1 ce1 H locs cells slots ex hR g1 g2 g3 => ?_)
      · rcases h with ⟨v_6, ev2, h⟩ | ⟨e2, ee2, -⟩
        · cases ev.symm.trans ev2
          replace h := rz_i h
          obtain ⟨x_10, rfl, h⟩ := h
          dsimp only [Option.toList, List.cons_append, List.nil_append]
          refine lv_istore_n (lv' := [(2, .int x_10), (0, .ref a0), (1, .int x1)]) hx hb dP_single_18 rfl hl (by decide) rfl (fun ls hl => ?_)
          refine lv_iload_n hx hb dP_single_19 rfl (lv_at hl 0 rfl) ?_
          refine lv_bipush (v := 40) hx hb dP_single_20 (by decide) ?_
          refine lv_icmp_ne (tgt := 46) hx hb dP_single_22 (by decide) (fun c_11 => ?_) (fun c_11 => ?_)
          · replace h := rz_f c_11 h
            refine lv_aload_n hx hb dP_single_46 rfl (lv_at hl 1 rfl) ?_
            refine lv_iload_n hx hb dP_single_47 rfl (lv_at hl 0 rfl) ?_
            obtain ⟨c_12, h⟩ := rz_chk h
            obtain ⟨q_16, M_14, h_15, h⟩ := rz_c h
            refine rc_V (rest := []) (As := [.int x_10]) hx hb (hl.1.trans hml.symm) hown hK hR hRm mfP_make kl_P_68 hk_P rfl rfl c_12 (by simp [cat_rf, cat_i, cat_a, cat_l, cat_n]) (hC 20 _ _ _ _ h_15) dP_single_48 (fun v1 H locs cells slots ev hR => ?_) (fun x1 q1 ce1 H locs cells slots ex hR g1 g2 g3 => ?_)
            · rcases h with ⟨v_13, ev2, h⟩ | ⟨e2, ee2, -⟩
              · cases ev.symm.trans ev2
                replace h := rz_p h
                obtain ⟨r_17, rfl, h⟩ := h
                dsimp only [Option.toList, List.cons_append, List.nil_append]
                refine lr_astore_n (lv' := [(3, va_rf r_17), (2, .int x_10), (0, .ref a0), (1, .int x1)]) hx hb dP_single_51 rfl hl (by decide) rfl (fun ls hl => ?_)
                refine lv_iload_n hx hb dP_single_52 rfl (lv_at hl 1 rfl) ?_
                refine lv_bipush (v := 45) hx hb dP_single_53 (by decide) ?_
                refine lv_icmp_ne (tgt := 72) hx hb dP_single_55 (by decide) (fun c_18 => ?_) (fun c_18 => ?_)
                · replace h := rz_f c_18 h
                  refine lv_iload_n hx hb dP_single_72 rfl (lv_at hl 1 rfl) ?_
                  refine lv_bipush (v := 48) hx hb dP_single_73 (by decide) ?_
                  refine lv_icmp_eq (tgt := 109) hx hb dP_single_75 (by decide) (fun c_19 => ?_) (fun c_19 => ?_)
                  · replace h := rz_t c_19 h
                    exact tP_single_109 F hC r_17 _ _ _ _ _ _ h hR (lv_sub hl [0] rfl)
                  · replace h := rz_f c_19 h
                    refine lv_iload_n hx hb dP_single_78 rfl (lv_at hl 1 rfl) ?_
                    refine lv_bipush (v := 49) hx hb dP_single_79 (by decide) ?_
                    refine lv_icmp_eq (tgt := 109) hx hb dP_single_81 (by decide) (fun c_20 => ?_) (fun c_20 => ?_)
                    · replace h := rz_t c_20 h
                      exact tP_single_109 F hC r_17 _ _ _ _ _ _ h hR (lv_sub hl [0] rfl)
                    · replace h := rz_f c_20 h
                      refine lr_aload_n hx hb dP_single_84 rfl (lv_at hl 0 rfl) ?_
                      refine lv_aload_n hx hb dP_single_85 rfl (lv_at hl 2 rfl) ?_
                      refine lv_iload_n hx hb dP_single_86 rfl (lv_at hl 1 rfl) ?_
                      obtain ⟨c_21, h⟩ := rz_chk h
                      obtain ⟨q_25, M_23, h_24, h⟩ := rz_c h
                      refine rc_V (rest := [va_rf r_17]) (As := [.int x_10]) hx hb (hl.1.trans hml.symm) hown hK hR hRm mfP_boundVariable kl_P_143 hk_P rfl rfl c_21 (by simp [cat_rf, cat_i, cat_a, cat_l, cat_n]) (hC 41 _ _ _ _ h_24) dP_single_87 (fun v1 H locs cells slots ev hR => ?_) (fun x1 q1 ce1 H locs cells slots ex hR g1 g2 g3 => ?_)
                      · rcases h with ⟨v_22, ev2, h⟩ | ⟨e2, ee2, -⟩
                        · cases ev.symm.trans ev2
                          replace h := rz_i h
                          obtain ⟨x_26, rfl, h⟩ := h
                          dsimp only [Option.toList, List.cons_append, List.nil_append]
                          obtain ⟨a_27, e_28, h⟩ := rz_d h
                          rw [e_28]
                          obtain ⟨c_29, h⟩ := rz_chk h
                          obtain ⟨M_30, q_31, h⟩ := rz_m h
                          refine rg_putI hx hb hown hK hR hk_N 2 (by decide) kf_P_118 rfl rfl (ty := .int) (by decide +kernel) (Or.inl rfl) rfl c_29 dP_single_90 (fun H locs hR => ?_)
                          rw [← q_31] at hR
                          have c_32 : mK M_30 a_27 = 4 := by rw [q_31]; exact c_29
                          refine lr_aload_n hx hb dP_single_93 rfl (lv_at hl 0 rfl) ?_
                          obtain ⟨a_33, e_34, h⟩ := rz_d h
                          rw [e_34]
                          obtain ⟨c_35, h⟩ := rz_chk h
                          refine rg_getI hx hb hown hK hR hk_N 2 (by decide) kf_P_118 rfl c_35 dP_single_94 ?_
                          refine lv_iconst (v := 3) hx hb dP_single_97 (by decide) ?_
                          refine lv_icmp_lt (tgt := 105) hx hb dP_single_98 (by decide) (fun c_36 => ?_) (fun c_36 => ?_)
                          · replace h := rz_t c_36 h
                            refine lv_iconst (v := 0) hx hb dP_single_105 (by decide) ?_
                            exact tP_single_106 F hC r_17 0 _ _ _ _ _ _ h hR (lv_sub hl [0] rfl)
                          · replace h := rz_f c_36 h
                            refine lv_iconst (v := 1) hx hb dP_single_101 (by decide) ?_
                            refine lv_goto (tgt := 106) hx hb dP_single_102 (by decide) ?_
                            exact tP_single_106 F hC r_17 1 _ _ _ _ _ _ h hR (lv_sub hl [0] rfl)
                        · cases ev.symm.trans ee2
                      · rcases h with ⟨v2, ev2, -⟩ | ⟨e2, ee2, h⟩
                        · cases ex.symm.trans ev2
                        · cases ex.symm.trans ee2
                          cases h
                          exact rt_x hlk hex hR g1 g2 g3
                · replace h := rz_t c_18 h
                  refine lr_aload_n hx hb dP_single_58 rfl (lv_at hl 0 rfl) ?_
                  refine lv_aload_n hx hb dP_single_59 rfl (lv_at hl 2 rfl) ?_
                  refine lv_iload_n hx hb dP_single_60 rfl (lv_at hl 3 rfl) ?_
                  refine lv_iconst (v := 1) hx hb dP_single_61 (by decide) ?_
                  refine lv_iadd hx hb dP_single_62 ?_
                  obtain ⟨c_37, h⟩ := rz_chk h
                  obtain ⟨q_41, M_39, h_40, h⟩ := rz_c h
                  refine rc_V (rest := [va_rf r_17]) (As := [.int (x1 + 1)]) hx hb (hl.1.trans hml.symm) hown hK hR hRm mfP_single kl_P_87 hk_P rfl rfl c_37 (by simp [cat_rf, cat_i, cat_a, cat_l, cat_n]) (hC 40 _ _ _ _ h_40) dP_single_63 (fun v1 H locs cells slots ev hR => ?_) (fun x1 q1 ce1 H locs cells slots ex hR g1 g2 g3 => ?_)
                  · rcases h with ⟨v_38, ev2, h⟩ | ⟨e2, ee2, -⟩
                    · cases ev.symm.trans ev2
                      replace h := rz_p h
                      obtain ⟨r_42, rfl, h⟩ := h
                      dsimp only [Option.toList, List.cons_append, List.nil_append]
                      obtain ⟨a_43, e_44, h⟩ := rz_d h
                      rw [e_44]
                      obtain ⟨c_45, h⟩ := rz_chk h
                      obtain ⟨M_46, q_47, h⟩ := rz_m h
                      refine rg_putP (r := r_42) hx hb hown hK hR hk_N 3 (by decide) kf_P_72 rfl rfl (ty := .object "HeadCount$Node") (by decide +kernel) (Or.inl ⟨_, rfl⟩) c_45 dP_single_66 (fun H locs hR => ?_)
                      rw [← q_47] at hR
                      have c_48 : mK M_46 a_43 = 4 := by rw [q_47]; exact c_45
                      refine lv_goto (tgt := 109) hx hb dP_single_69 (by decide) ?_
                      exact tP_single_109 F hC r_17 _ _ _ _ _ _ h hR (lv_sub hl [0] rfl)
                    · cases ev.symm.trans ee2
                  · rcases h with ⟨v2, ev2, -⟩ | ⟨e2, ee2, h⟩
                    · cases ex.symm.trans ev2
                    · cases ex.symm.trans ee2
                      cases h
                      exact rt_x hlk hex hR g1 g2 g3
              · cases ev.symm.trans ee2
            · rcases h with ⟨v2, ev2, -⟩ | ⟨e2, ee2, h⟩
              · cases ex.symm.trans ev2
              · cases ex.symm.trans ee2
                cases h
                exact rt_x hlk hex hR g1 g2 g3
          · replace h := rz_t c_11 h
            refine lv_aload_n hx hb dP_single_25 rfl (lv_at hl 1 rfl) ?_
            refine lv_bipush (v := 43) hx hb dP_single_26 (by decide) ?_
            refine lv_iload_n hx hb dP_single_28 rfl (lv_at hl 2 rfl) ?_
            refine lv_iconst (v := 1) hx hb dP_single_29 (by decide) ?_
            refine lv_iadd hx hb dP_single_30 ?_
            obtain ⟨c_49, h⟩ := rz_chk h
            obtain ⟨q_53, M_51, h_52, h⟩ := rz_c h
            refine rc_V (rest := []) (As := [.int 43, .int (x1 + 1)]) hx hb (hl.1.trans hml.symm) hown hK hR hRm mfP_row kl_P_40 hk_P rfl rfl c_49 (by simp [cat_rf, cat_i, cat_a, cat_l, cat_n]) (hC 13 _ _ _ _ h_52) dP_single_31 (fun v1 H locs cells slots ev hR => ?_) (fun x1 q1 ce1 H locs cells slots ex hR g1 g2 g3 => ?_)
            · rcases h with ⟨v_50, ev2, h⟩ | ⟨e2, ee2, -⟩
              · cases ev.symm.trans ev2
                replace h := rz_p h
                obtain ⟨r_54, rfl, h⟩ := h
                dsimp only [Option.toList, List.cons_append, List.nil_append]
                refine lr_astore_n (lv' := [(3, va_rf r_54), (2, .int x_10), (0, .ref a0), (1, .int x1)]) hx hb dP_single_34 rfl hl (by decide) rfl (fun ls hl => ?_)
                refine lv_aload_n hx hb dP_single_35 rfl (lv_at hl 2 rfl) ?_
                refine lv_bipush (v := 41) hx hb dP_single_36 (by decide) ?_
                obtain ⟨c_55, h⟩ := rz_chk h
                obtain ⟨q_59, M_57, h_58, h⟩ := rz_c h
                refine rc_V (rest := []) (As := [.int 41]) hx hb (hl.1.trans hml.symm) hown hK hR hRm mfP_take kl_P_76 hk_P rfl rfl c_55 (by simp [cat_rf, cat_i, cat_a, cat_l, cat_n]) (hC 31 _ _ _ _ h_58) dP_single_38 (fun v1 H locs cells slots ev hR => ?_) (fun x1 q1 ce1 H locs cells slots ex hR g1 g2 g3 => ?_)
                · rcases h with ⟨v_56, ev2, h⟩ | ⟨e2, ee2, -⟩
                  · cases ev.symm.trans ev2
                    replace h := rz_i h
                    obtain ⟨x_60, rfl, h⟩ := h
                    dsimp only [Option.toList, List.cons_append, List.nil_append]
                    obtain ⟨q_64, M_62, h_63, h⟩ := rz_c h
                    refine rc_S (rest := []) (As := [.int x_60]) hx hb (hl.1.trans hml.symm) hown hK hR hRm mfP_insist kl_P_51 rfl (by simp [cat_rf, cat_i, cat_a, cat_l, cat_n]) (hC 16 _ _ _ _ h_63) dP_single_41 (fun v1 H locs cells slots ev hR => ?_) (fun x1 q1 ce1 H locs cells slots ex hR g1 g2 g3 => ?_)
                    · rcases h with ⟨v_61, ev2, h⟩ | ⟨e2, ee2, -⟩
                      · cases ev.symm.trans ev2
                        replace h := rz_v h
                        obtain ⟨rfl, h⟩ := h
                        dsimp only [Option.toList, List.cons_append, List.nil_append]
                        refine lr_aload_n hx hb dP_single_44 rfl (lv_at hl 0 rfl) ?_
                        cases h
                        exact rt_a (r := r_54) hx hb hlk hrt (Or.inl ⟨_, rfl⟩) hR dP_single_45
                      · cases ev.symm.trans ee2
                    · rcases h with ⟨v2, ev2, -⟩ | ⟨e2, ee2, h⟩
                      · cases ex.symm.trans ev2
                      · cases ex.symm.trans ee2
                        cases h
                        exact rt_x hlk hex hR g1 g2 g3
                  · cases ev.symm.trans ee2
                · rcases h with ⟨v2, ev2, -⟩ | ⟨e2, ee2, h⟩
                  · cases ex.symm.trans ev2
                  · cases ex.symm.trans ee2
                    cases h
                    exact rt_x hlk hex hR g1 g2 g3
              · cases ev.symm.trans ee2
            · rcases h with ⟨v2, ev2, -⟩ | ⟨e2, ee2, h⟩
              · cases ex.symm.trans ev2
              · cases ex.symm.trans ee2
                cases h
                exact rt_x hlk hex hR g1 g2 g3
        · cases ev.symm.trans ee2
      · rcases h with ⟨v2, ev2, -⟩ | ⟨e2, ee2, h⟩
        · cases ex.symm.trans ev2
        · cases ex.symm.trans ee2
          cases h
          exact rt_x hlk hex hR g1 g2 g3
    · cases ev.symm.trans ee2
  · rcases h with ⟨v2, ev2, -⟩ | ⟨e2, ee2, h⟩
    · cases ex.symm.trans ev2
    · cases ex.symm.trans ee2
      cases h
      exact rt_x hlk hex hR g1 g2 g3
def fP_single_0 (n d : Nat) (C : Cx) (a0 : Nat) (x1 : Int32) (M : Mem) : Rz := if 12 < x1 then (fP_single_11 n d C a0 x1 0 M) else (fP_single_11 n d C a0 x1 1 M)
set_option maxRecDepth 100000 in
set_option maxHeartbeats 4000000 in
theorem tP_single_0 {n : Nat} (F : FX p s m meth c G R M0 d "HeadCount$Parser" bP_single 4 (some (.object "HeadCount$Node"))) (hC : CBs l G d C) : ∀ (a0 : Nat) (x1 : Int32) (M : Mem) (H : Heap) (locs : List Loc) (cells slots : Nat) (ls : Array Slot), fP_single_0 n d C a0 x1 M = some (r, M') → RL G M0 M H locs cells slots → lv_has ls 4 [(0, .ref a0), (1, .int x1)] → W p l e R s m args below meth c H locs cells slots (CQ G below s M0 r M') (F0 m 0 ls []) := by
  obtain ⟨hx, hb, hml, hown, hrt, hlk, hex, hK, hRm⟩ := id F
  intro a0 x1 M H locs cells slots ls h hR hl
  unfold fP_single_0 at h
  refine lv_iload_n hx hb dP_single_0 rfl (lv_at hl 1 rfl) ?_
  refine lv_bipush (v := 12) hx hb dP_single_1 (by decide) ?_
  refine lv_icmp_gt (tgt := 10) hx hb dP_single_3 (by decide) (fun c_1 => ?_) (fun c_1 => ?_)
  · replace h := rz_t c_1 h
    refine lv_iconst (v := 0) hx hb dP_single_10 (by decide) ?_
    exact tP_single_11 F hC a0 x1 0 _ _ _ _ _ _ h hR (lv_sub hl [0, 1] rfl)
  · replace h := rz_f c_1 h
    refine lv_iconst (v := 1) hx hb dP_single_6 (by decide) ?_
    refine lv_goto (tgt := 11) hx hb dP_single_7 (by decide) ?_
    exact tP_single_11 F hC a0 x1 1 _ _ _ _ _ _ h hR (lv_sub hl [0, 1] rfl)
set_option maxRecDepth 100000 in
set_option maxHeartbeats 4000000 in
theorem sP_single {l : Launch} {G : Gx} {n d : Nat} {C : Cx} (hC : CBs l G d C) (a0 : Nat) (x1 : Int32) {M M' : Mem} {r : Option Value ⊕ Nat} (h : fP_single_0 n d C a0 x1 M = some (r, M')) : CB l G (d + 1) yP_single [.ref a0, .int x1] M r M' := by
  intro p e R s m below meth c hx hn hm hc hlk hK hR hcap hS hU hfr hlo hrc hrs
  obtain ⟨hb, hml, hrt, hex, hown⟩ := fx_of hn hm hc (hK.w mfP_single.2.2.1 rfl #[])
  have F : FX p s m meth c G R M d "HeadCount$Parser" bP_single 4 (some (.object "HeadCount$Node")) := ⟨hx, hb, hml, hown, hrt, hlk, hex, hK, hfr, hlo, by rw [← hcap]; exact hrc, hrs⟩
  rw [hml]
  have hl := lv_entry ([.ref a0, .int x1]) (n := 4) (by simp [lg_sl, cat_rf, cat_i, cat_a, cat_l, cat_n])
  rw [lg_entry_eq]
  generalize (lg_sl ([.ref a0, .int x1]) ++ List.replicate (4 - (lg_sl ([.ref a0, .int x1])).length) Slot.unset).toArray = ls at hl ⊢
  have hl : lv_has ls 4 [(0, .ref a0), (1, .int x1)] := by simpa [lv_args, cat_rf, cat_i, cat_a, cat_l, cat_n] using hl
  exact tP_single_0 F hC a0 x1 _ _ _ _ _ _ h (RL.start hR hcap hS hU) (lv_sub hl [0, 1] rfl)
def fP_boundVariable_34 (n d : Nat) (C : Cx) (x2 : Int32) (xs0 : Int32) (M : Mem) : Rz := rzC (C 16 [.int xs0] M) fun v_1 M_2 => (rzV v_1 (some (.inl (some (.int x2)), M_2)))
set_option maxRecDepth 100000 in
set_option maxHeartbeats 4000000 in
theorem tP_boundVariable_34 {n : Nat} (F : FX p s m meth c G R M0 d "HeadCount$Parser" bP_boundVariable 3 (some .int)) (hC : CBs l G d C) : ∀ (x2 : Int32) (xs0 : Int32) (M : Mem) (H : Heap) (locs : List Loc) (cells slots : Nat) (ls : Array Slot), fP_boundVariable_34 n d C x2 xs0 M = some (r, M') → RL G M0 M H locs cells slots → lv_has ls 3 [(2, .int x2)] → W p l e R s m args below meth c H locs cells slots (CQ G below s M0 r M') (F0 m 34 ls [.int xs0]) := by
  obtain ⟨hx, hb, hml, hown, hrt, hlk, hex, hK, hRm⟩ := id F
  intro x2 xs0 M H locs cells slots ls h hR hl
  unfold fP_boundVariable_34 at h
  obtain ⟨q_4, M_2, h_3, h⟩ := rz_c h
  refine rc_S (rest := []) (As := [.int xs0]) hx hb (hl.1.trans hml.symm) hown hK hR hRm mfP_insist kl_P_51 rfl (by simp [cat_rf, cat_i, cat_a, cat_l, cat_n]) (hC 16 _ _ _ _ h_3) dP_boundVariable_34 (fun v1 H locs cells slots ev hR => ?_) (fun x1 q1 ce1 H locs cells slots ex hR g1 g2 g3 => ?_)
  · rcases h with ⟨v_1, ev2, h⟩ | ⟨e2, ee2, -⟩
    · cases ev.symm.trans ev2
      replace h := rz_v h
      obtain ⟨rfl, h⟩ := h
      dsimp only [Option.toList, List.cons_append, List.nil_append]
      refine lv_iload_n hx hb dP_boundVariable_37 rfl (lv_at hl 0 rfl) ?_
      cases h
      exact rt_i hx hb hlk hrt (Or.inl rfl) rfl hR dP_boundVariable_38
    · cases ev.symm.trans ee2
  · rcases h with ⟨v2, ev2, -⟩ | ⟨e2, ee2, h⟩
    · cases ex.symm.trans ev2
    · cases ex.symm.trans ee2
      cases h
      exact rt_x hlk hex hR g1 g2 g3
def fP_boundVariable_33 (n d : Nat) (C : Cx) (x2 : Int32) (M : Mem) : Rz := fP_boundVariable_34 n d C x2 0 M
set_option maxRecDepth 100000 in
set_option maxHeartbeats 4000000 in
theorem tP_boundVariable_33 {n : Nat} (F : FX p s m meth c G R M0 d "HeadCount$Parser" bP_boundVariable 3 (some .int)) (hC : CBs l G d C) : ∀ (x2 : Int32) (M : Mem) (H : Heap) (locs : List Loc) (cells slots : Nat) (ls : Array Slot), fP_boundVariable_33 n d C x2 M = some (r, M') → RL G M0 M H locs cells slots → lv_has ls 3 [(2, .int x2)] → W p l e R s m args below meth c H locs cells slots (CQ G below s M0 r M') (F0 m 33 ls []) := by
  obtain ⟨hx, hb, hml, hown, hrt, hlk, hex, hK, hRm⟩ := id F
  intro x2 M H locs cells slots ls h hR hl
  unfold fP_boundVariable_33 at h
  refine lv_iconst (v := 0) hx hb dP_boundVariable_33 (by decide) ?_
  exact tP_boundVariable_34 F hC x2 0 _ _ _ _ _ _ h hR (lv_sub hl [0] rfl)
def fP_boundVariable_0 (n d : Nat) (C : Cx) (a0 : Nat) (x1 : Int32) (M : Mem) : Rz := if (mC M 1) = mC M 1 then (rzC (C 24 [.ref (mC M 1), .int x1] M) fun v_1 M_2 => (rzI v_1 fun x_6 => (if x_6 < 0 then (fP_boundVariable_33 n d C x_6 M_2) else (if mK M_2 a0 = 2 then (rzD (mP M_2 a0 4) fun a_9 => (if mK M_2 a_9 = 23 then (if (nI (mL M_2 a_9)) ≤ x_6 then (fP_boundVariable_33 n d C x_6 M_2) else (if inA x_6 (mL M_2 a_9) then (if (mI M_2 a_9 x_6.toNatClampNeg) = 0 then (fP_boundVariable_33 n d C x_6 M_2) else (fP_boundVariable_34 n d C x_6 1 M_2)) else none)) else none)) else none)))) else none
set_option maxRecDepth 100000 in
set_option maxHeartbeats 4000000 in
theorem tP_boundVariable_0 {n : Nat} (F : FX p s m meth c G R M0 d "HeadCount$Parser" bP_boundVariable 3 (some .int)) (hC : CBs l G d C) : ∀ (a0 : Nat) (x1 : Int32) (M : Mem) (H : Heap) (locs : List Loc) (cells slots : Nat) (ls : Array Slot), fP_boundVariable_0 n d C a0 x1 M = some (r, M') → RL G M0 M H locs cells slots → lv_has ls 3 [(0, .ref a0), (1, .int x1)] → W p l e R s m args below meth c H locs cells slots (CQ G below s M0 r M') (F0 m 0 ls []) := by
  obtain ⟨hx, hb, hml, hown, hrt, hlk, hex, hK, hRm⟩ := id F
  intro a0 x1 M H locs cells slots ls h hR hl
  unfold fP_boundVariable_0 at h
  have hcc := hR.2.2.2.2.1
  refine va_ldcS (q := mC M 1) hx hb hown (by rw [hcc]; exact hK.2.2.2.1.1) dP_boundVariable_0 ?_
  refine lv_iload_n hx hb dP_boundVariable_2 rfl (lv_at hl 1 rfl) ?_
  obtain ⟨c_5, h⟩ := rz_chk h
  obtain ⟨q_4, M_2, h_3, h⟩ := rz_c h
  refine rc_VS (rest := []) (As := [.int x1]) hx hb (hl.1.trans hml.symm) hown hK hR hRm mfS_indexOf kl_P_114 rfl rfl c_5 (by simp [cat_rf, cat_i, cat_a, cat_l, cat_n]) (hC 24 _ _ _ _ h_3) dP_boundVariable_3 (fun v1 H locs cells slots ev hR => ?_) (fun x1 q1 ce1 H locs cells slots ex hR g1 g2 g3 => ?_)
  · rcases h with ⟨v_1, ev2, h⟩ | ⟨e2, ee2, -⟩
    · cases ev.symm.trans ev2
      replace h := rz_i h
      obtain ⟨x_6, rfl, h⟩ := h
      dsimp only [Option.toList, List.cons_append, List.nil_append]
      refine lv_istore_n (lv' := [(2, .int x_6), (0, .ref a0), (1, .int x1)]) hx hb dP_boundVariable_6 rfl hl (by decide) rfl (fun ls hl => ?_)
      refine lv_iload_n hx hb dP_boundVariable_7 rfl (lv_at hl 0 rfl) ?_
      refine lv_if_lt (tgt := 33) hx hb dP_boundVariable_8 (by decide) (fun c_7 => ?_) (fun c_7 => ?_)
      · replace h := rz_t c_7 h
        exact tP_boundVariable_33 F hC x_6 _ _ _ _ _ _ h hR (lv_sub hl [0] rfl)
      · replace h := rz_f c_7 h
        refine lv_iload_n hx hb dP_boundVariable_11 rfl (lv_at hl 0 rfl) ?_
        refine lv_aload_n hx hb dP_boundVariable_12 rfl (lv_at hl 1 rfl) ?_
        obtain ⟨c_8, h⟩ := rz_chk h
        refine rg_getP hx hb hown hK hR hk_P 4 (by decide) kf_P_23 rfl c_8 dP_boundVariable_13 ?_
        obtain ⟨a_9, e_10, h⟩ := rz_d h
        rw [e_10]
        obtain ⟨c_11, h⟩ := rz_chk h
        refine rg_alen hx hb hK hR 23 c_11 (by decide) (by decide) dP_boundVariable_16 ?_
        refine lv_icmp_ge (tgt := 33) hx hb dP_boundVariable_17 (by decide) (fun c_12 => ?_) (fun c_12 => ?_)
        · replace h := rz_t c_12 h
          exact tP_boundVariable_33 F hC x_6 _ _ _ _ _ _ h hR (lv_sub hl [0] rfl)
        · replace h := rz_f c_12 h
          refine lv_aload_n hx hb dP_boundVariable_20 rfl (lv_at hl 1 rfl) ?_
          refine rg_getP hx hb hown hK hR hk_P 4 (by decide) kf_P_23 rfl c_8 dP_boundVariable_21 ?_
          refine lv_iload_n hx hb dP_boundVariable_24 rfl (lv_at hl 0 rfl) ?_
          rw [e_10]
          obtain ⟨c_13, h⟩ := rz_chk h
          refine rg_zald hx hb hK hR c_11 c_13 dP_boundVariable_25 ?_
          refine lv_if_eq (tgt := 33) hx hb dP_boundVariable_26 (by decide) (fun c_14 => ?_) (fun c_14 => ?_)
          · replace h := rz_t c_14 h
            exact tP_boundVariable_33 F hC x_6 _ _ _ _ _ _ h hR (lv_sub hl [0] rfl)
          · replace h := rz_f c_14 h
            refine lv_iconst (v := 1) hx hb dP_boundVariable_29 (by decide) ?_
            refine lv_goto (tgt := 34) hx hb dP_boundVariable_30 (by decide) ?_
            exact tP_boundVariable_34 F hC x_6 1 _ _ _ _ _ _ h hR (lv_sub hl [0] rfl)
    · cases ev.symm.trans ee2
  · rcases h with ⟨v2, ev2, -⟩ | ⟨e2, ee2, h⟩
    · cases ex.symm.trans ev2
    · cases ex.symm.trans ee2
      cases h
      exact rt_x hlk hex hR g1 g2 g3
set_option maxRecDepth 100000 in
set_option maxHeartbeats 4000000 in
theorem sP_boundVariable {l : Launch} {G : Gx} {n d : Nat} {C : Cx} (hC : CBs l G d C) (a0 : Nat) (x1 : Int32) {M M' : Mem} {r : Option Value ⊕ Nat} (h : fP_boundVariable_0 n d C a0 x1 M = some (r, M')) : CB l G (d + 1) yP_boundVariable [.ref a0, .int x1] M r M' := by
  intro p e R s m below meth c hx hn hm hc hlk hK hR hcap hS hU hfr hlo hrc hrs
  obtain ⟨hb, hml, hrt, hex, hown⟩ := fx_of hn hm hc (hK.w mfP_boundVariable.2.2.1 rfl #[])
  have F : FX p s m meth c G R M d "HeadCount$Parser" bP_boundVariable 3 (some .int) := ⟨hx, hb, hml, hown, hrt, hlk, hex, hK, hfr, hlo, by rw [← hcap]; exact hrc, hrs⟩
  rw [hml]
  have hl := lv_entry ([.ref a0, .int x1]) (n := 3) (by simp [lg_sl, cat_rf, cat_i, cat_a, cat_l, cat_n])
  rw [lg_entry_eq]
  generalize (lg_sl ([.ref a0, .int x1]) ++ List.replicate (3 - (lg_sl ([.ref a0, .int x1])).length) Slot.unset).toArray = ls at hl ⊢
  have hl : lv_has ls 3 [(0, .ref a0), (1, .int x1)] := by simpa [lv_args, cat_rf, cat_i, cat_a, cat_l, cat_n] using hl
  exact tP_boundVariable_0 F hC a0 x1 _ _ _ _ _ _ h (RL.start hR hcap hS hU) (lv_sub hl [0, 1] rfl)
def fP_comparisonOfSums_44 (n d : Nat) (C : Cx) (a0 : Nat) (x1 : Int32) (r2 : Option Nat) (xs0 : Int32) (M : Mem) : Rz := rzC (C 16 [.int xs0] M) fun v_1 M_2 => (rzV v_1 (if mK M_2 a0 = 2 then (rzC (C 37 [.ref a0, va_rf r2, .int ((-1)), .int x1] M_2) fun v_6 M_7 => (rzV v_6 (some (.inl (some (va_rf r2)), M_7)))) else none))
set_option maxRecDepth 100000 in
set_option maxHeartbeats 4000000 in
theorem tP_comparisonOfSums_44 {n : Nat} (F : FX p s m meth c G R M0 d "HeadCount$Parser" bP_comparisonOfSums 3 (some (.object "HeadCount$Node"))) (hC : CBs l G d C) : ∀ (a0 : Nat) (x1 : Int32) (r2 : Option Nat) (xs0 : Int32) (M : Mem) (H : Heap) (locs : List Loc) (cells slots : Nat) (ls : Array Slot), fP_comparisonOfSums_44 n d C a0 x1 r2 xs0 M = some (r, M') → RL G M0 M H locs cells slots → lv_has ls 3 [(0, .ref a0), (1, .int x1), (2, va_rf r2)] → W p l e R s m args below meth c H locs cells slots (CQ G below s M0 r M') (F0 m 44 ls [.int xs0]) := by
  obtain ⟨hx, hb, hml, hown, hrt, hlk, hex, hK, hRm⟩ := id F
  intro a0 x1 r2 xs0 M H locs cells slots ls h hR hl
  unfold fP_comparisonOfSums_44 at h
  obtain ⟨q_4, M_2, h_3, h⟩ := rz_c h
  refine rc_S (rest := []) (As := [.int xs0]) hx hb (hl.1.trans hml.symm) hown hK hR hRm mfP_insist kl_P_51 rfl (by simp [cat_rf, cat_i, cat_a, cat_l, cat_n]) (hC 16 _ _ _ _ h_3) dP_comparisonOfSums_44 (fun v1 H locs cells slots ev hR => ?_) (fun x1 q1 ce1 H locs cells slots ex hR g1 g2 g3 => ?_)
  · rcases h with ⟨v_1, ev2, h⟩ | ⟨e2, ee2, -⟩
    · cases ev.symm.trans ev2
      replace h := rz_v h
      obtain ⟨rfl, h⟩ := h
      dsimp only [Option.toList, List.cons_append, List.nil_append]
      refine lv_aload_n hx hb dP_comparisonOfSums_47 rfl (lv_at hl 0 rfl) ?_
      refine lr_aload_n hx hb dP_comparisonOfSums_48 rfl (lv_at hl 2 rfl) ?_
      refine lv_iconst (v := (-1)) hx hb dP_comparisonOfSums_49 (by decide) ?_
      refine lv_iload_n hx hb dP_comparisonOfSums_50 rfl (lv_at hl 1 rfl) ?_
      obtain ⟨c_5, h⟩ := rz_chk h
      obtain ⟨q_9, M_7, h_8, h⟩ := rz_c h
      refine rc_V (rest := []) (As := [va_rf r2, .int ((-1)), .int x1]) hx hb (hl.1.trans hml.symm) hown hK hR hRm mfP_addSum kl_P_129 hk_P rfl rfl c_5 (by simp [cat_rf, cat_i, cat_a, cat_l, cat_n]) (hC 37 _ _ _ _ h_8) dP_comparisonOfSums_51 (fun v1 H locs cells slots ev hR => ?_) (fun x1 q1 ce1 H locs cells slots ex hR g1 g2 g3 => ?_)
      · rcases h with ⟨v_6, ev2, h⟩ | ⟨e2, ee2, -⟩
        · cases ev.symm.trans ev2
          replace h := rz_v h
          obtain ⟨rfl, h⟩ := h
          dsimp only [Option.toList, List.cons_append, List.nil_append]
          refine lr_aload_n hx hb dP_comparisonOfSums_54 rfl (lv_at hl 2 rfl) ?_
          cases h
          exact rt_a (r := r2) hx hb hlk hrt (Or.inl ⟨_, rfl⟩) hR dP_comparisonOfSums_55
        · cases ev.symm.trans ee2
      · rcases h with ⟨v2, ev2, -⟩ | ⟨e2, ee2, h⟩
        · cases ex.symm.trans ev2
        · cases ex.symm.trans ee2
          cases h
          exact rt_x hlk hex hR g1 g2 g3
    · cases ev.symm.trans ee2
  · rcases h with ⟨v2, ev2, -⟩ | ⟨e2, ee2, h⟩
    · cases ex.symm.trans ev2
    · cases ex.symm.trans ee2
      cases h
      exact rt_x hlk hex hR g1 g2 g3
def fP_comparisonOfSums_39 (n d : Nat) (C : Cx) (a0 : Nat) (x1 : Int32) (r2 : Option Nat) (M : Mem) : Rz := fP_comparisonOfSums_44 n d C a0 x1 r2 1 M
set_option maxRecDepth 100000 in
set_option maxHeartbeats 4000000 in
theorem tP_comparisonOfSums_39 {n : Nat} (F : FX p s m meth c G R M0 d "HeadCount$Parser" bP_comparisonOfSums 3 (some (.object "HeadCount$Node"))) (hC : CBs l G d C) : ∀ (a0 : Nat) (x1 : Int32) (r2 : Option Nat) (M : Mem) (H : Heap) (locs : List Loc) (cells slots : Nat) (ls : Array Slot), fP_comparisonOfSums_39 n d C a0 x1 r2 M = some (r, M') → RL G M0 M H locs cells slots → lv_has ls 3 [(0, .ref a0), (1, .int x1), (2, va_rf r2)] → W p l e R s m args below meth c H locs cells slots (CQ G below s M0 r M') (F0 m 39 ls []) := by
  obtain ⟨hx, hb, hml, hown, hrt, hlk, hex, hK, hRm⟩ := id F
  intro a0 x1 r2 M H locs cells slots ls h hR hl
  unfold fP_comparisonOfSums_39 at h
  refine lv_iconst (v := 1) hx hb dP_comparisonOfSums_39 (by decide) ?_
  refine lv_goto (tgt := 44) hx hb dP_comparisonOfSums_40 (by decide) ?_
  exact tP_comparisonOfSums_44 F hC a0 x1 r2 1 _ _ _ _ _ _ h hR (lv_sub hl [0, 1, 2] rfl)
def fP_comparisonOfSums_0 (n d : Nat) (C : Cx) (a0 : Nat) (x1 : Int32) (M : Mem) : Rz := if mK M a0 = 2 then (rzC (C 20 [.ref a0, .int 0] M) fun v_2 M_3 => (rzP v_2 fun r_6 => (if mK M_3 a0 = 2 then (rzC (C 37 [.ref a0, va_rf r_6, .int 1, .int x1] M_3) fun v_8 M_9 => (rzV v_8 (if mK M_9 a0 = 2 then (rzC (C 19 [.ref a0] M_9) fun v_13 M_14 => (rzI v_13 fun x_17 => (rzD r_6 fun a_18 => (if mK M_14 a_18 = 4 then (if fits .char (.int x_17) = true then (rzM (setI M_14 a_18 0 x_17) fun M_22 => (rzD r_6 fun a_25 => (if mK M_22 a_25 = 4 then (if (mI M_22 a_25 0) = 60 then (fP_comparisonOfSums_39 n d C a0 x1 r_6 M_22) else (if (mI M_22 a_25 0) = 61 then (fP_comparisonOfSums_39 n d C a0 x1 r_6 M_22) else (fP_comparisonOfSums_44 n d C a0 x1 r_6 0 M_22))) else none))) else none) else none)))) else none))) else none))) else none
set_option maxRecDepth 100000 in
set_option maxHeartbeats 4000000 in
theorem tP_comparisonOfSums_0 {n : Nat} (F : FX p s m meth c G R M0 d "HeadCount$Parser" bP_comparisonOfSums 3 (some (.object "HeadCount$Node"))) (hC : CBs l G d C) : ∀ (a0 : Nat) (x1 : Int32) (M : Mem) (H : Heap) (locs : List Loc) (cells slots : Nat) (ls : Array Slot), fP_comparisonOfSums_0 n d C a0 x1 M = some (r, M') → RL G M0 M H locs cells slots → lv_has ls 3 [(0, .ref a0), (1, .int x1)] → W p l e R s m args below meth c H locs cells slots (CQ G below s M0 r M') (F0 m 0 ls []) := by
  obtain ⟨hx, hb, hml, hown, hrt, hlk, hex, hK, hRm⟩ := id F
  intro a0 x1 M H locs cells slots ls h hR hl
  unfold fP_comparisonOfSums_0 at h
  refine lv_aload_n hx hb dP_comparisonOfSums_0 rfl (lv_at hl 0 rfl) ?_
  refine lv_iconst (v := 0) hx hb dP_comparisonOfSums_1 (by decide) ?_
  obtain ⟨c_1, h⟩ := rz_chk h
  obtain ⟨q_5, M_3, h_4, h⟩ := rz_c h
  refine rc_V (rest := []) (As := [.int 0]) hx hb (hl.1.trans hml.symm) hown hK hR hRm mfP_make kl_P_68 hk_P rfl rfl c_1 (by simp [cat_rf, cat_i, cat_a, cat_l, cat_n]) (hC 20 _ _ _ _ h_4) dP_comparisonOfSums_2 (fun v1 H locs cells slots ev hR => ?_) (fun x1 q1 ce1 H locs cells slots ex hR g1 g2 g3 => ?_)
  · rcases h with ⟨v_2, ev2, h⟩ | ⟨e2, ee2, -⟩
    · cases ev.symm.trans ev2
      replace h := rz_p h
      obtain ⟨r_6, rfl, h⟩ := h
      dsimp only [Option.toList, List.cons_append, List.nil_append]
      refine lr_astore_n (lv' := [(2, va_rf r_6), (0, .ref a0), (1, .int x1)]) hx hb dP_comparisonOfSums_5 rfl hl (by decide) rfl (fun ls hl => ?_)
      refine lv_aload_n hx hb dP_comparisonOfSums_6 rfl (lv_at hl 1 rfl) ?_
      refine lr_aload_n hx hb dP_comparisonOfSums_7 rfl (lv_at hl 0 rfl) ?_
      refine lv_iconst (v := 1) hx hb dP_comparisonOfSums_8 (by decide) ?_
      refine lv_iload_n hx hb dP_comparisonOfSums_9 rfl (lv_at hl 2 rfl) ?_
      obtain ⟨c_7, h⟩ := rz_chk h
      obtain ⟨q_11, M_9, h_10, h⟩ := rz_c h
      refine rc_V (rest := []) (As := [va_rf r_6, .int 1, .int x1]) hx hb (hl.1.trans hml.symm) hown hK hR hRm mfP_addSum kl_P_129 hk_P rfl rfl c_7 (by simp [cat_rf, cat_i, cat_a, cat_l, cat_n]) (hC 37 _ _ _ _ h_10) dP_comparisonOfSums_10 (fun v1 H locs cells slots ev hR => ?_) (fun x1 q1 ce1 H locs cells slots ex hR g1 g2 g3 => ?_)
      · rcases h with ⟨v_8, ev2, h⟩ | ⟨e2, ee2, -⟩
        · cases ev.symm.trans ev2
          replace h := rz_v h
          obtain ⟨rfl, h⟩ := h
          dsimp only [Option.toList, List.cons_append, List.nil_append]
          refine lr_aload_n hx hb dP_comparisonOfSums_13 rfl (lv_at hl 0 rfl) ?_
          refine lv_aload_n hx hb dP_comparisonOfSums_14 rfl (lv_at hl 1 rfl) ?_
          obtain ⟨c_12, h⟩ := rz_chk h
          obtain ⟨q_16, M_14, h_15, h⟩ := rz_c h
          refine rc_V (rest := [va_rf r_6]) (As := []) hx hb (hl.1.trans hml.symm) hown hK hR hRm mfP_next kl_P_112 hk_P rfl rfl c_12 (by simp [cat_rf, cat_i, cat_a, cat_l, cat_n]) (hC 19 _ _ _ _ h_15) dP_comparisonOfSums_15 (fun v1 H locs cells slots ev hR => ?_) (fun x1 q1 ce1 H locs cells slots ex hR g1 g2 g3 => ?_)
          · rcases h with ⟨v_13, ev2, h⟩ | ⟨e2, ee2, -⟩
            · cases ev.symm.trans ev2
              replace h := rz_i h
              obtain ⟨x_17, rfl, h⟩ := h
              dsimp only [Option.toList, List.cons_append, List.nil_append]
              obtain ⟨a_18, e_19, h⟩ := rz_d h
              rw [e_19]
              obtain ⟨c_20, h⟩ := rz_chk h
              obtain ⟨c_21, h⟩ := rz_chk h
              obtain ⟨M_22, q_23, h⟩ := rz_m h
              refine rg_putI hx hb hown hK hR hk_N 0 (by decide) kf_P_133 rfl rfl (ty := .char) (by decide +kernel) (Or.inr (Or.inl rfl)) c_21 c_20 dP_comparisonOfSums_18 (fun H locs hR => ?_)
              rw [← q_23] at hR
              have c_24 : mK M_22 a_18 = 4 := by rw [q_23]; exact c_20
              refine lr_aload_n hx hb dP_comparisonOfSums_21 rfl (lv_at hl 0 rfl) ?_
              obtain ⟨a_25, e_26, h⟩ := rz_d h
              rw [e_26]
              obtain ⟨c_27, h⟩ := rz_chk h
              refine rg_getI hx hb hown hK hR hk_N 0 (by decide) kf_P_133 rfl c_27 dP_comparisonOfSums_22 ?_
              refine lv_bipush (v := 60) hx hb dP_comparisonOfSums_25 (by decide) ?_
              refine lv_icmp_eq (tgt := 39) hx hb dP_comparisonOfSums_27 (by decide) (fun c_28 => ?_) (fun c_28 => ?_)
              · replace h := rz_t c_28 h
                exact tP_comparisonOfSums_39 F hC a0 x1 r_6 _ _ _ _ _ _ h hR (lv_sub hl [1, 2, 0] rfl)
              · replace h := rz_f c_28 h
                refine lr_aload_n hx hb dP_comparisonOfSums_30 rfl (lv_at hl 0 rfl) ?_
                rw [e_26]
                refine rg_getI hx hb hown hK hR hk_N 0 (by decide) kf_P_133 rfl c_27 dP_comparisonOfSums_31 ?_
                refine lv_bipush (v := 61) hx hb dP_comparisonOfSums_34 (by decide) ?_
                refine lv_icmp_ne (tgt := 43) hx hb dP_comparisonOfSums_36 (by decide) (fun c_29 => ?_) (fun c_29 => ?_)
                · replace h := rz_f c_29 h
                  refine lv_iconst (v := 0) hx hb dP_comparisonOfSums_43 (by decide) ?_
                  exact tP_comparisonOfSums_44 F hC a0 x1 r_6 0 _ _ _ _ _ _ h hR (lv_sub hl [1, 2, 0] rfl)
                · replace h := rz_t c_29 h
                  exact tP_comparisonOfSums_39 F hC a0 x1 r_6 _ _ _ _ _ _ h hR (lv_sub hl [1, 2, 0] rfl)
            · cases ev.symm.trans ee2
          · rcases h with ⟨v2, ev2, -⟩ | ⟨e2, ee2, h⟩
            · cases ex.symm.trans ev2
            · cases ex.symm.trans ee2
              cases h
              exact rt_x hlk hex hR g1 g2 g3
        · cases ev.symm.trans ee2
      · rcases h with ⟨v2, ev2, -⟩ | ⟨e2, ee2, h⟩
        · cases ex.symm.trans ev2
        · cases ex.symm.trans ee2
          cases h
          exact rt_x hlk hex hR g1 g2 g3
    · cases ev.symm.trans ee2
  · rcases h with ⟨v2, ev2, -⟩ | ⟨e2, ee2, h⟩
    · cases ex.symm.trans ev2
    · cases ex.symm.trans ee2
      cases h
      exact rt_x hlk hex hR g1 g2 g3
set_option maxRecDepth 100000 in
set_option maxHeartbeats 4000000 in
theorem sP_comparisonOfSums {l : Launch} {G : Gx} {n d : Nat} {C : Cx} (hC : CBs l G d C) (a0 : Nat) (x1 : Int32) {M M' : Mem} {r : Option Value ⊕ Nat} (h : fP_comparisonOfSums_0 n d C a0 x1 M = some (r, M')) : CB l G (d + 1) yP_comparisonOfSums [.ref a0, .int x1] M r M' := by
  intro p e R s m below meth c hx hn hm hc hlk hK hR hcap hS hU hfr hlo hrc hrs
  obtain ⟨hb, hml, hrt, hex, hown⟩ := fx_of hn hm hc (hK.w mfP_comparisonOfSums.2.2.1 rfl #[])
  have F : FX p s m meth c G R M d "HeadCount$Parser" bP_comparisonOfSums 3 (some (.object "HeadCount$Node")) := ⟨hx, hb, hml, hown, hrt, hlk, hex, hK, hfr, hlo, by rw [← hcap]; exact hrc, hrs⟩
  rw [hml]
  have hl := lv_entry ([.ref a0, .int x1]) (n := 3) (by simp [lg_sl, cat_rf, cat_i, cat_a, cat_l, cat_n])
  rw [lg_entry_eq]
  generalize (lg_sl ([.ref a0, .int x1]) ++ List.replicate (3 - (lg_sl ([.ref a0, .int x1])).length) Slot.unset).toArray = ls at hl ⊢
  have hl : lv_has ls 3 [(0, .ref a0), (1, .int x1)] := by simpa [lv_args, cat_rf, cat_i, cat_a, cat_l, cat_n] using hl
  exact tP_comparisonOfSums_0 F hC a0 x1 _ _ _ _ _ _ h (RL.start hR hcap hS hU) (lv_sub hl [0, 1] rfl)
end
