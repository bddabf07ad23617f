theorem dN_init_0 : decode bN_init 0 = .ok (.aload_n 0, 1) := by decide +kernel
theorem dN_init_1 : decode bN_init 1 = .ok (.invokespecial 1, 3) := by decide +kernel
theorem dN_init_4 : decode bN_init 4 = .ok (.return_, 1) := by decide +kernel
theorem dN_reset_0 : decode bN_reset 0 = .ok (.aload_n 0, 1) := by decide +kernel
theorem dN_reset_1 : decode bN_reset 1 = .ok (.iload_n 1, 1) := by decide +kernel
theorem dN_reset_2 : decode bN_reset 2 = .ok (.putfield 7, 3) := by decide +kernel
theorem dN_reset_5 : decode bN_reset 5 = .ok (.aload_n 0, 1) := by decide +kernel
theorem dN_reset_6 : decode bN_reset 6 = .ok (.iconst 0, 1) := by decide +kernel
theorem dN_reset_7 : decode bN_reset 7 = .ok (.putfield 13, 3) := by decide +kernel
theorem dN_reset_10 : decode bN_reset 10 = .ok (.aload_n 0, 1) := by decide +kernel
theorem dN_reset_11 : decode bN_reset 11 = .ok (.iconst 0, 1) := by decide +kernel
theorem dN_reset_12 : decode bN_reset 12 = .ok (.putfield 17, 3) := by decide +kernel
theorem dN_reset_15 : decode bN_reset 15 = .ok (.aload_n 0, 1) := by decide +kernel
theorem dN_reset_16 : decode bN_reset 16 = .ok (.aconst_null, 1) := by decide +kernel
theorem dN_reset_17 : decode bN_reset 17 = .ok (.putfield 20, 3) := by decide +kernel
theorem dN_reset_20 : decode bN_reset 20 = .ok (.aload_n 0, 1) := by decide +kernel
theorem dN_reset_21 : decode bN_reset 21 = .ok (.aconst_null, 1) := by decide +kernel
theorem dN_reset_22 : decode bN_reset 22 = .ok (.putfield 24, 3) := by decide +kernel
theorem dN_reset_25 : decode bN_reset 25 = .ok (.return_, 1) := by decide +kernel
theorem dP_init_0 : decode bP_init 0 = .ok (.aload_n 0, 1) := by decide +kernel
theorem dP_init_1 : decode bP_init 1 = .ok (.invokespecial 3, 3) := by decide +kernel
theorem dP_init_4 : decode bP_init 4 = .ok (.aload_n 0, 1) := by decide +kernel
theorem dP_init_5 : decode bP_init 5 = .ok (.bipush 120, 2) := by decide +kernel
theorem dP_init_7 : decode bP_init 7 = .ok (.newarray .char, 2) := by decide +kernel
theorem dP_init_9 : decode bP_init 9 = .ok (.putfield 9, 3) := by decide +kernel
theorem dP_init_12 : decode bP_init 12 = .ok (.aload_n 0, 1) := by decide +kernel
theorem dP_init_13 : decode bP_init 13 = .ok (.ldc 15, 2) := by decide +kernel
theorem dP_init_15 : decode bP_init 15 = .ok (.invokevirtual 17, 3) := by decide +kernel
theorem dP_init_18 : decode bP_init 18 = .ok (.newarray .boolean, 2) := by decide +kernel
theorem dP_init_20 : decode bP_init 20 = .ok (.putfield 23, 3) := by decide +kernel
theorem dP_init_23 : decode bP_init 23 = .ok (.aload_n 0, 1) := by decide +kernel
theorem dP_init_24 : decode bP_init 24 = .ok (.bipush 120, 2) := by decide +kernel
theorem dP_init_26 : decode bP_init 26 = .ok (.anewarray 27, 3) := by decide +kernel
theorem dP_init_29 : decode bP_init 29 = .ok (.putfield 29, 3) := by decide +kernel
theorem dP_init_32 : decode bP_init 32 = .ok (.aload_n 0, 1) := by decide +kernel
theorem dP_init_33 : decode bP_init 33 = .ok (.bipush 120, 2) := by decide +kernel
theorem dP_init_35 : decode bP_init 35 = .ok (.anewarray 27, 3) := by decide +kernel
theorem dP_init_38 : decode bP_init 38 = .ok (.putfield 33, 3) := by decide +kernel
theorem dP_init_41 : decode bP_init 41 = .ok (.return_, 1) := by decide +kernel
theorem dP_parse_0 : decode bP_parse 0 = .ok (.aload_n 0, 1) := by decide +kernel
theorem dP_parse_1 : decode bP_parse 1 = .ok (.aload_n 1, 1) := by decide +kernel
theorem dP_parse_2 : decode bP_parse 2 = .ok (.iload_n 2, 1) := by decide +kernel
theorem dP_parse_3 : decode bP_parse 3 = .ok (.invokevirtual 36, 3) := by decide +kernel
theorem dP_parse_6 : decode bP_parse 6 = .ok (.aload_n 0, 1) := by decide +kernel
theorem dP_parse_7 : decode bP_parse 7 = .ok (.bipush 124, 2) := by decide +kernel
theorem dP_parse_9 : decode bP_parse 9 = .ok (.iconst 0, 1) := by decide +kernel
theorem dP_parse_10 : decode bP_parse 10 = .ok (.invokevirtual 40, 3) := by decide +kernel
theorem dP_parse_13 : decode bP_parse 13 = .ok (.astore_n 3, 1) := by decide +kernel
theorem dP_parse_14 : decode bP_parse 14 = .ok (.aload_n 0, 1) := by decide +kernel
theorem dP_parse_15 : decode bP_parse 15 = .ok (.getfield 44, 3) := by decide +kernel
theorem dP_parse_18 : decode bP_parse 18 = .ok (.aload_n 0, 1) := by decide +kernel
theorem dP_parse_19 : decode bP_parse 19 = .ok (.getfield 48, 3) := by decide +kernel
theorem dP_parse_22 : decode bP_parse 22 = .ok (.if_icmp .ne 7, 3) := by decide +kernel
theorem dP_parse_25 : decode bP_parse 25 = .ok (.iconst 1, 1) := by decide +kernel
theorem dP_parse_26 : decode bP_parse 26 = .ok (.goto 4, 3) := by decide +kernel
theorem dP_parse_29 : decode bP_parse 29 = .ok (.iconst 0, 1) := by decide +kernel
theorem dP_parse_30 : decode bP_parse 30 = .ok (.invokestatic 51, 3) := by decide +kernel
theorem dP_parse_33 : decode bP_parse 33 = .ok (.aload_n 0, 1) := by decide +kernel
theorem dP_parse_34 : decode bP_parse 34 = .ok (.getfield 29, 3) := by decide +kernel
theorem dP_parse_37 : decode bP_parse 37 = .ok (.astore 4, 2) := by decide +kernel
theorem dP_parse_39 : decode bP_parse 39 = .ok (.aload_n 0, 1) := by decide +kernel
theorem dP_parse_40 : decode bP_parse 40 = .ok (.aload_n 0, 1) := by decide +kernel
theorem dP_parse_41 : decode bP_parse 41 = .ok (.getfield 33, 3) := by decide +kernel
theorem dP_parse_44 : decode bP_parse 44 = .ok (.putfield 29, 3) := by decide +kernel
theorem dP_parse_47 : decode bP_parse 47 = .ok (.aload_n 0, 1) := by decide +kernel
theorem dP_parse_48 : decode bP_parse 48 = .ok (.aload 4, 2) := by decide +kernel
theorem dP_parse_50 : decode bP_parse 50 = .ok (.putfield 33, 3) := by decide +kernel
theorem dP_parse_53 : decode bP_parse 53 = .ok (.aload_n 3, 1) := by decide +kernel
theorem dP_parse_54 : decode bP_parse 54 = .ok (.areturn, 1) := by decide +kernel
theorem dP_start_0 : decode bP_start 0 = .ok (.aload_n 0, 1) := by decide +kernel
theorem dP_start_1 : decode bP_start 1 = .ok (.iconst 0, 1) := by decide +kernel
theorem dP_start_2 : decode bP_start 2 = .ok (.putfield 48, 3) := by decide +kernel
theorem dP_start_5 : decode bP_start 5 = .ok (.aload_n 0, 1) := by decide +kernel
theorem dP_start_6 : decode bP_start 6 = .ok (.iconst 0, 1) := by decide +kernel
theorem dP_start_7 : decode bP_start 7 = .ok (.putfield 44, 3) := by decide +kernel
theorem dP_start_10 : decode bP_start 10 = .ok (.aload_n 0, 1) := by decide +kernel
theorem dP_start_11 : decode bP_start 11 = .ok (.iconst 0, 1) := by decide +kernel
theorem dP_start_12 : decode bP_start 12 = .ok (.putfield 55, 3) := by decide +kernel
theorem dP_start_15 : decode bP_start 15 = .ok (.aload_n 0, 1) := by decide +kernel
theorem dP_start_16 : decode bP_start 16 = .ok (.iconst 0, 1) := by decide +kernel
theorem dP_start_17 : decode bP_start 17 = .ok (.putfield 58, 3) := by decide +kernel
theorem dP_start_20 : decode bP_start 20 = .ok (.iconst 0, 1) := by decide +kernel
theorem dP_start_21 : decode bP_start 21 = .ok (.istore_n 3, 1) := by decide +kernel
theorem dP_start_22 : decode bP_start 22 = .ok (.iload_n 3, 1) := by decide +kernel
theorem dP_start_23 : decode bP_start 23 = .ok (.aload_n 0, 1) := by decide +kernel
theorem dP_start_24 : decode bP_start 24 = .ok (.getfield 23, 3) := by decide +kernel
theorem dP_start_27 : decode bP_start 27 = .ok (.arraylength, 1) := by decide +kernel
theorem dP_start_28 : decode bP_start 28 = .ok (.if_icmp .ge 16, 3) := by decide +kernel
theorem dP_start_31 : decode bP_start 31 = .ok (.aload_n 0, 1) := by decide +kernel
theorem dP_start_32 : decode bP_start 32 = .ok (.getfield 23, 3) := by decide +kernel
theorem dP_start_35 : decode bP_start 35 = .ok (.iload_n 3, 1) := by decide +kernel
theorem dP_start_36 : decode bP_start 36 = .ok (.iconst 0, 1) := by decide +kernel
theorem dP_start_37 : decode bP_start 37 = .ok (.bastore, 1) := by decide +kernel
theorem dP_start_38 : decode bP_start 38 = .ok (.iinc 3 1, 3) := by decide +kernel
theorem dP_start_41 : decode bP_start 41 = .ok (.goto (-19), 3) := by decide +kernel
theorem dP_start_44 : decode bP_start 44 = .ok (.iconst 0, 1) := by decide +kernel
theorem dP_start_45 : decode bP_start 45 = .ok (.istore_n 3, 1) := by decide +kernel
theorem dP_start_46 : decode bP_start 46 = .ok (.iload_n 3, 1) := by decide +kernel
theorem dP_start_47 : decode bP_start 47 = .ok (.iload_n 2, 1) := by decide +kernel
theorem dP_start_48 : decode bP_start 48 = .ok (.if_icmp .ge 57, 3) := by decide +kernel
theorem dP_start_51 : decode bP_start 51 = .ok (.iload_n 3, 1) := by decide +kernel
theorem dP_start_52 : decode bP_start 52 = .ok (.aload_n 1, 1) := by decide +kernel
theorem dP_start_53 : decode bP_start 53 = .ok (.arraylength, 1) := by decide +kernel
theorem dP_start_54 : decode bP_start 54 = .ok (.if_icmp .ge 51, 3) := by decide +kernel
theorem dP_start_57 : decode bP_start 57 = .ok (.aload_n 0, 1) := by decide +kernel
theorem dP_start_58 : decode bP_start 58 = .ok (.getfield 48, 3) := by decide +kernel
theorem dP_start_61 : decode bP_start 61 = .ok (.aload_n 0, 1) := by decide +kernel
theorem dP_start_62 : decode bP_start 62 = .ok (.getfield 9, 3) := by decide +kernel
theorem dP_start_65 : decode bP_start 65 = .ok (.arraylength, 1) := by decide +kernel
theorem dP_start_66 : decode bP_start 66 = .ok (.if_icmp .ge 39, 3) := by decide +kernel
theorem dP_start_69 : decode bP_start 69 = .ok (.aload_n 1, 1) := by decide +kernel
theorem dP_start_70 : decode bP_start 70 = .ok (.iload_n 3, 1) := by decide +kernel
theorem dP_start_71 : decode bP_start 71 = .ok (.caload, 1) := by decide +kernel
theorem dP_start_72 : decode bP_start 72 = .ok (.bipush 32, 2) := by decide +kernel
theorem dP_start_74 : decode bP_start 74 = .ok (.if_icmp .eq 25, 3) := by decide +kernel
theorem dP_start_77 : decode bP_start 77 = .ok (.aload_n 0, 1) := by decide +kernel
theorem dP_start_78 : decode bP_start 78 = .ok (.getfield 9, 3) := by decide +kernel
theorem dP_start_81 : decode bP_start 81 = .ok (.aload_n 0, 1) := by decide +kernel
theorem dP_start_82 : decode bP_start 82 = .ok (.getfield 48, 3) := by decide +kernel
theorem dP_start_85 : decode bP_start 85 = .ok (.aload_n 1, 1) := by decide +kernel
theorem dP_start_86 : decode bP_start 86 = .ok (.iload_n 3, 1) := by decide +kernel
theorem dP_start_87 : decode bP_start 87 = .ok (.caload, 1) := by decide +kernel
theorem dP_start_88 : decode bP_start 88 = .ok (.castore, 1) := by decide +kernel
theorem dP_start_89 : decode bP_start 89 = .ok (.aload_n 0, 1) := by decide +kernel
theorem dP_start_90 : decode bP_start 90 = .ok (.dup, 1) := by decide +kernel
theorem dP_start_91 : decode bP_start 91 = .ok (.getfield 48, 3) := by decide +kernel
theorem dP_start_94 : decode bP_start 94 = .ok (.iconst 1, 1) := by decide +kernel
theorem dP_start_95 : decode bP_start 95 = .ok (.iadd, 1) := by decide +kernel
theorem dP_start_96 : decode bP_start 96 = .ok (.putfield 48, 3) := by decide +kernel
theorem dP_start_99 : decode bP_start 99 = .ok (.iinc 3 1, 3) := by decide +kernel
theorem dP_start_102 : decode bP_start 102 = .ok (.goto (-56), 3) := by decide +kernel
theorem dP_start_105 : decode bP_start 105 = .ok (.return_, 1) := by decide +kernel
theorem dP_row_0 : decode bP_row 0 = .ok (.aload_n 0, 1) := by decide +kernel
theorem dP_row_1 : decode bP_row 1 = .ok (.iload_n 1, 1) := by decide +kernel
theorem dP_row_2 : decode bP_row 2 = .ok (.iload_n 2, 1) := by decide +kernel
theorem dP_row_3 : decode bP_row 3 = .ok (.invokevirtual 61, 3) := by decide +kernel
theorem dP_row_6 : decode bP_row 6 = .ok (.astore_n 3, 1) := by decide +kernel
theorem dP_row_7 : decode bP_row 7 = .ok (.aload_n 0, 1) := by decide +kernel
theorem dP_row_8 : decode bP_row 8 = .ok (.invokevirtual 64, 3) := by decide +kernel
theorem dP_row_11 : decode bP_row 11 = .ok (.iload_n 1, 1) := by decide +kernel
theorem dP_row_12 : decode bP_row 12 = .ok (.if_icmp .eq 5, 3) := by decide +kernel
theorem dP_row_15 : decode bP_row 15 = .ok (.aload_n 3, 1) := by decide +kernel
theorem dP_row_16 : decode bP_row 16 = .ok (.areturn, 1) := by decide +kernel
theorem dP_row_17 : decode bP_row 17 = .ok (.aload_n 0, 1) := by decide +kernel
theorem dP_row_18 : decode bP_row 18 = .ok (.iload_n 1, 1) := by decide +kernel
theorem dP_row_19 : decode bP_row 19 = .ok (.invokevirtual 68, 3) := by decide +kernel
theorem dP_row_22 : decode bP_row 22 = .ok (.astore 4, 2) := by decide +kernel
theorem dP_row_24 : decode bP_row 24 = .ok (.aload 4, 2) := by decide +kernel
theorem dP_row_26 : decode bP_row 26 = .ok (.aload_n 3, 1) := by decide +kernel
theorem dP_row_27 : decode bP_row 27 = .ok (.putfield 72, 3) := by decide +kernel
theorem dP_row_30 : decode bP_row 30 = .ok (.aload_n 3, 1) := by decide +kernel
theorem dP_row_31 : decode bP_row 31 = .ok (.astore 5, 2) := by decide +kernel
theorem dP_row_33 : decode bP_row 33 = .ok (.iconst 0, 1) := by decide +kernel
theorem dP_row_34 : decode bP_row 34 = .ok (.istore 6, 2) := by decide +kernel
theorem dP_row_36 : decode bP_row 36 = .ok (.iload 6, 2) := by decide +kernel
theorem dP_row_38 : decode bP_row 38 = .ok (.bipush 120, 2) := by decide +kernel
theorem dP_row_40 : decode bP_row 40 = .ok (.if_icmp .ge 35, 3) := by decide +kernel
theorem dP_row_43 : decode bP_row 43 = .ok (.aload_n 0, 1) := by decide +kernel
theorem dP_row_44 : decode bP_row 44 = .ok (.iload_n 1, 1) := by decide +kernel
theorem dP_row_45 : decode bP_row 45 = .ok (.invokevirtual 76, 3) := by decide +kernel
theorem dP_row_48 : decode bP_row 48 = .ok (.ifCond .eq 27, 3) := by decide +kernel
theorem dP_row_51 : decode bP_row 51 = .ok (.aload 5, 2) := by decide +kernel
theorem dP_row_53 : decode bP_row 53 = .ok (.aload_n 0, 1) := by decide +kernel
theorem dP_row_54 : decode bP_row 54 = .ok (.iload_n 1, 1) := by decide +kernel
theorem dP_row_55 : decode bP_row 55 = .ok (.iload_n 2, 1) := by decide +kernel
theorem dP_row_56 : decode bP_row 56 = .ok (.invokevirtual 61, 3) := by decide +kernel
theorem dP_row_59 : decode bP_row 59 = .ok (.putfield 80, 3) := by decide +kernel
theorem dP_row_62 : decode bP_row 62 = .ok (.aload 5, 2) := by decide +kernel
theorem dP_row_64 : decode bP_row 64 = .ok (.getfield 80, 3) := by decide +kernel
theorem dP_row_67 : decode bP_row 67 = .ok (.astore 5, 2) := by decide +kernel
theorem dP_row_69 : decode bP_row 69 = .ok (.iinc 6 1, 3) := by decide +kernel
theorem dP_row_72 : decode bP_row 72 = .ok (.goto (-36), 3) := by decide +kernel
theorem dP_row_75 : decode bP_row 75 = .ok (.aload 4, 2) := by decide +kernel
theorem dP_row_77 : decode bP_row 77 = .ok (.areturn, 1) := by decide +kernel
theorem dP_item_0 : decode bP_item 0 = .ok (.iload_n 1, 1) := by decide +kernel
theorem dP_item_1 : decode bP_item 1 = .ok (.lookupswitch 57 #[(38, 43), (43, 49), (124, 35)], 35) := by decide +kernel
theorem dP_item_36 : decode bP_item 36 = .ok (.aload_n 0, 1) := by decide +kernel
theorem dP_item_37 : decode bP_item 37 = .ok (.bipush 38, 2) := by decide +kernel
theorem dP_item_39 : decode bP_item 39 = .ok (.iload_n 2, 1) := by decide +kernel
theorem dP_item_40 : decode bP_item 40 = .ok (.invokevirtual 40, 3) := by decide +kernel
theorem dP_item_43 : decode bP_item 43 = .ok (.areturn, 1) := by decide +kernel
theorem dP_item_44 : decode bP_item 44 = .ok (.aload_n 0, 1) := by decide +kernel
theorem dP_item_45 : decode bP_item 45 = .ok (.iload_n 2, 1) := by decide +kernel
theorem dP_item_46 : decode bP_item 46 = .ok (.invokevirtual 83, 3) := by decide +kernel
theorem dP_item_49 : decode bP_item 49 = .ok (.areturn, 1) := by decide +kernel
theorem dP_item_50 : decode bP_item 50 = .ok (.aload_n 0, 1) := by decide +kernel
theorem dP_item_51 : decode bP_item 51 = .ok (.bipush 42, 2) := by decide +kernel
theorem dP_item_53 : decode bP_item 53 = .ok (.iload_n 2, 1) := by decide +kernel
theorem dP_item_54 : decode bP_item 54 = .ok (.invokevirtual 40, 3) := by decide +kernel
theorem dP_item_57 : decode bP_item 57 = .ok (.areturn, 1) := by decide +kernel
theorem dP_item_58 : decode bP_item 58 = .ok (.aload_n 0, 1) := by decide +kernel
theorem dP_item_59 : decode bP_item 59 = .ok (.iload_n 2, 1) := by decide +kernel
theorem dP_item_60 : decode bP_item 60 = .ok (.invokevirtual 87, 3) := by decide +kernel
theorem dP_item_63 : decode bP_item 63 = .ok (.areturn, 1) := by decide +kernel
theorem dP_one_0 : decode bP_one 0 = .ok (.iload_n 1, 1) := by decide +kernel
theorem dP_one_1 : decode bP_one 1 = .ok (.bipush 12, 2) := by decide +kernel
theorem dP_one_3 : decode bP_one 3 = .ok (.if_icmp .gt 7, 3) := by decide +kernel
theorem dP_one_6 : decode bP_one 6 = .ok (.iconst 1, 1) := by decide +kernel
theorem dP_one_7 : decode bP_one 7 = .ok (.goto 4, 3) := by decide +kernel
theorem dP_one_10 : decode bP_one 10 = .ok (.iconst 0, 1) := by decide +kernel
theorem dP_one_11 : decode bP_one 11 = .ok (.invokestatic 51, 3) := by decide +kernel
theorem dP_one_14 : decode bP_one 14 = .ok (.aload_n 0, 1) := by decide +kernel
theorem dP_one_15 : decode bP_one 15 = .ok (.invokevirtual 64, 3) := by decide +kernel
theorem dP_one_18 : decode bP_one 18 = .ok (.lookupswitch 74 #[(33, 50), (40, 62), (65, 56), (69, 56), (91, 68)], 50) := by decide +kernel
theorem dP_one_68 : decode bP_one 68 = .ok (.aload_n 0, 1) := by decide +kernel
theorem dP_one_69 : decode bP_one 69 = .ok (.iload_n 1, 1) := by decide +kernel
theorem dP_one_70 : decode bP_one 70 = .ok (.invokevirtual 90, 3) := by decide +kernel
theorem dP_one_73 : decode bP_one 73 = .ok (.areturn, 1) := by decide +kernel
theorem dP_one_74 : decode bP_one 74 = .ok (.aload_n 0, 1) := by decide +kernel
theorem dP_one_75 : decode bP_one 75 = .ok (.iload_n 1, 1) := by decide +kernel
theorem dP_one_76 : decode bP_one 76 = .ok (.invokevirtual 93, 3) := by decide +kernel
theorem dP_one_79 : decode bP_one 79 = .ok (.areturn, 1) := by decide +kernel
theorem dP_one_80 : decode bP_one 80 = .ok (.aload_n 0, 1) := by decide +kernel
theorem dP_one_81 : decode bP_one 81 = .ok (.iload_n 1, 1) := by decide +kernel
theorem dP_one_82 : decode bP_one 82 = .ok (.invokevirtual 96, 3) := by decide +kernel
theorem dP_one_85 : decode bP_one 85 = .ok (.areturn, 1) := by decide +kernel
theorem dP_one_86 : decode bP_one 86 = .ok (.aload_n 0, 1) := by decide +kernel
theorem dP_one_87 : decode bP_one 87 = .ok (.iload_n 1, 1) := by decide +kernel
theorem dP_one_88 : decode bP_one 88 = .ok (.invokevirtual 99, 3) := by decide +kernel
theorem dP_one_91 : decode bP_one 91 = .ok (.areturn, 1) := by decide +kernel
theorem dP_one_92 : decode bP_one 92 = .ok (.aload_n 0, 1) := by decide +kernel
theorem dP_one_93 : decode bP_one 93 = .ok (.invokevirtual 102, 3) := by decide +kernel
theorem dP_one_96 : decode bP_one 96 = .ok (.ifCond .eq 11, 3) := by decide +kernel
theorem dP_one_99 : decode bP_one 99 = .ok (.aload_n 0, 1) := by decide +kernel
theorem dP_one_100 : decode bP_one 100 = .ok (.iload_n 1, 1) := by decide +kernel
theorem dP_one_101 : decode bP_one 101 = .ok (.invokevirtual 106, 3) := by decide +kernel
theorem dP_one_104 : decode bP_one 104 = .ok (.goto 8, 3) := by decide +kernel
theorem dP_one_107 : decode bP_one 107 = .ok (.aload_n 0, 1) := by decide +kernel
theorem dP_one_108 : decode bP_one 108 = .ok (.iload_n 1, 1) := by decide +kernel
theorem dP_one_109 : decode bP_one 109 = .ok (.invokevirtual 109, 3) := by decide +kernel
theorem dP_one_112 : decode bP_one 112 = .ok (.areturn, 1) := by decide +kernel
theorem dP_peek_0 : decode bP_peek 0 = .ok (.aload_n 0, 1) := by decide +kernel
theorem dP_peek_1 : decode bP_peek 1 = .ok (.getfield 44, 3) := by decide +kernel
theorem dP_peek_4 : decode bP_peek 4 = .ok (.aload_n 0, 1) := by decide +kernel
theorem dP_peek_5 : decode bP_peek 5 = .ok (.getfield 48, 3) := by decide +kernel
theorem dP_peek_8 : decode bP_peek 8 = .ok (.if_icmp .ge 27, 3) := by decide +kernel
theorem dP_peek_11 : decode bP_peek 11 = .ok (.aload_n 0, 1) := by decide +kernel
theorem dP_peek_12 : decode bP_peek 12 = .ok (.getfield 44, 3) := by decide +kernel
theorem dP_peek_15 : decode bP_peek 15 = .ok (.aload_n 0, 1) := by decide +kernel
theorem dP_peek_16 : decode bP_peek 16 = .ok (.getfield 9, 3) := by decide +kernel
theorem dP_peek_19 : decode bP_peek 19 = .ok (.arraylength, 1) := by decide +kernel
theorem dP_peek_20 : decode bP_peek 20 = .ok (.if_icmp .ge 15, 3) := by decide +kernel
theorem dP_peek_23 : decode bP_peek 23 = .ok (.aload_n 0, 1) := by decide +kernel
theorem dP_peek_24 : decode bP_peek 24 = .ok (.getfield 9, 3) := by decide +kernel
theorem dP_peek_27 : decode bP_peek 27 = .ok (.aload_n 0, 1) := by decide +kernel
theorem dP_peek_28 : decode bP_peek 28 = .ok (.getfield 44, 3) := by decide +kernel
theorem dP_peek_31 : decode bP_peek 31 = .ok (.caload, 1) := by decide +kernel
theorem dP_peek_32 : decode bP_peek 32 = .ok (.goto 4, 3) := by decide +kernel
theorem dP_peek_35 : decode bP_peek 35 = .ok (.iconst 0, 1) := by decide +kernel
theorem dP_peek_36 : decode bP_peek 36 = .ok (.ireturn, 1) := by decide +kernel
theorem dP_not_0 : decode bP_not 0 = .ok (.aload_n 0, 1) := by decide +kernel
theorem dP_not_1 : decode bP_not 1 = .ok (.aload_n 0, 1) := by decide +kernel
theorem dP_not_2 : decode bP_not 2 = .ok (.invokevirtual 112, 3) := by decide +kernel
theorem dP_not_5 : decode bP_not 5 = .ok (.invokevirtual 68, 3) := by decide +kernel
theorem dP_not_8 : decode bP_not 8 = .ok (.astore_n 2, 1) := by decide +kernel
theorem dP_not_9 : decode bP_not 9 = .ok (.aload_n 2, 1) := by decide +kernel
theorem dP_not_10 : decode bP_not 10 = .ok (.aload_n 0, 1) := by decide +kernel
theorem dP_not_11 : decode bP_not 11 = .ok (.iload_n 1, 1) := by decide +kernel
theorem dP_not_12 : decode bP_not 12 = .ok (.iconst 1, 1) := by decide +kernel
theorem dP_not_13 : decode bP_not 13 = .ok (.iadd, 1) := by decide +kernel
theorem dP_not_14 : decode bP_not 14 = .ok (.invokevirtual 83, 3) := by decide +kernel
theorem dP_not_17 : decode bP_not 17 = .ok (.putfield 72, 3) := by decide +kernel
theorem dP_not_20 : decode bP_not 20 = .ok (.aload_n 2, 1) := by decide +kernel
theorem dP_not_21 : decode bP_not 21 = .ok (.areturn, 1) := by decide +kernel
theorem dP_next_0 : decode bP_next 0 = .ok (.aload_n 0, 1) := by decide +kernel
theorem dP_next_1 : decode bP_next 1 = .ok (.invokevirtual 64, 3) := by decide +kernel
theorem dP_next_4 : decode bP_next 4 = .ok (.istore_n 1, 1) := by decide +kernel
theorem dP_next_5 : decode bP_next 5 = .ok (.aload_n 0, 1) := by decide +kernel
theorem dP_next_6 : decode bP_next 6 = .ok (.getfield 44, 3) := by decide +kernel
theorem dP_next_9 : decode bP_next 9 = .ok (.aload_n 0, 1) := by decide +kernel
theorem dP_next_10 : decode bP_next 10 = .ok (.getfield 48, 3) := by decide +kernel
theorem dP_next_13 : decode bP_next 13 = .ok (.if_icmp .ge 13, 3) := by decide +kernel
theorem dP_next_16 : decode bP_next 16 = .ok (.aload_n 0, 1) := by decide +kernel
theorem dP_next_17 : decode bP_next 17 = .ok (.dup, 1) := by decide +kernel
theorem dP_next_18 : decode bP_next 18 = .ok (.getfield 44, 3) := by decide +kernel
theorem dP_next_21 : decode bP_next 21 = .ok (.iconst 1, 1) := by decide +kernel
theorem dP_next_22 : decode bP_next 22 = .ok (.iadd, 1) := by decide +kernel
theorem dP_next_23 : decode bP_next 23 = .ok (.putfield 44, 3) := by decide +kernel
theorem dP_next_26 : decode bP_next 26 = .ok (.iload_n 1, 1) := by decide +kernel
theorem dP_next_27 : decode bP_next 27 = .ok (.ireturn, 1) := by decide +kernel
theorem dP_make_0 : decode bP_make 0 = .ok (.aload_n 0, 1) := by decide +kernel
theorem dP_make_1 : decode bP_make 1 = .ok (.getfield 58, 3) := by decide +kernel
theorem dP_make_4 : decode bP_make 4 = .ok (.aload_n 0, 1) := by decide +kernel
theorem dP_make_5 : decode bP_make 5 = .ok (.getfield 29, 3) := by decide +kernel
theorem dP_make_8 : decode bP_make 8 = .ok (.arraylength, 1) := by decide +kernel
theorem dP_make_9 : decode bP_make 9 = .ok (.if_icmp .ge 7, 3) := by decide +kernel
theorem dP_make_12 : decode bP_make 12 = .ok (.iconst 1, 1) := by decide +kernel
theorem dP_make_13 : decode bP_make 13 = .ok (.goto 4, 3) := by decide +kernel
theorem dP_make_16 : decode bP_make 16 = .ok (.iconst 0, 1) := by decide +kernel
theorem dP_make_17 : decode bP_make 17 = .ok (.invokestatic 51, 3) := by decide +kernel
theorem dP_make_20 : decode bP_make 20 = .ok (.aload_n 0, 1) := by decide +kernel
theorem dP_make_21 : decode bP_make 21 = .ok (.getfield 29, 3) := by decide +kernel
theorem dP_make_24 : decode bP_make 24 = .ok (.aload_n 0, 1) := by decide +kernel
theorem dP_make_25 : decode bP_make 25 = .ok (.getfield 58, 3) := by decide +kernel
theorem dP_make_28 : decode bP_make 28 = .ok (.aaload, 1) := by decide +kernel
theorem dP_make_29 : decode bP_make 29 = .ok (.ifnonnull 19, 3) := by decide +kernel
theorem dP_make_32 : decode bP_make 32 = .ok (.aload_n 0, 1) := by decide +kernel
theorem dP_make_33 : decode bP_make 33 = .ok (.getfield 29, 3) := by decide +kernel
theorem dP_make_36 : decode bP_make 36 = .ok (.aload_n 0, 1) := by decide +kernel
theorem dP_make_37 : decode bP_make 37 = .ok (.getfield 58, 3) := by decide +kernel
theorem dP_make_40 : decode bP_make 40 = .ok (.new 27, 3) := by decide +kernel
theorem dP_make_43 : decode bP_make 43 = .ok (.dup, 1) := by decide +kernel
theorem dP_make_44 : decode bP_make 44 = .ok (.invokespecial 147, 3) := by decide +kernel
theorem dP_make_47 : decode bP_make 47 = .ok (.aastore, 1) := by decide +kernel
theorem dP_make_48 : decode bP_make 48 = .ok (.aload_n 0, 1) := by decide +kernel
theorem dP_make_49 : decode bP_make 49 = .ok (.getfield 29, 3) := by decide +kernel
theorem dP_make_52 : decode bP_make 52 = .ok (.aload_n 0, 1) := by decide +kernel
theorem dP_make_53 : decode bP_make 53 = .ok (.getfield 58, 3) := by decide +kernel
theorem dP_make_56 : decode bP_make 56 = .ok (.aaload, 1) := by decide +kernel
theorem dP_make_57 : decode bP_make 57 = .ok (.astore_n 2, 1) := by decide +kernel
theorem dP_make_58 : decode bP_make 58 = .ok (.aload_n 0, 1) := by decide +kernel
theorem dP_make_59 : decode bP_make 59 = .ok (.dup, 1) := by decide +kernel
theorem dP_make_60 : decode bP_make 60 = .ok (.getfield 58, 3) := by decide +kernel
theorem dP_make_63 : decode bP_make 63 = .ok (.iconst 1, 1) := by decide +kernel
theorem dP_make_64 : decode bP_make 64 = .ok (.iadd, 1) := by decide +kernel
theorem dP_make_65 : decode bP_make 65 = .ok (.putfield 58, 3) := by decide +kernel
theorem dP_make_68 : decode bP_make 68 = .ok (.aload_n 2, 1) := by decide +kernel
theorem dP_make_69 : decode bP_make 69 = .ok (.iload_n 1, 1) := by decide +kernel
theorem dP_make_70 : decode bP_make 70 = .ok (.invokevirtual 148, 3) := by decide +kernel
theorem dP_make_73 : decode bP_make 73 = .ok (.aload_n 2, 1) := by decide +kernel
theorem dP_make_74 : decode bP_make 74 = .ok (.areturn, 1) := by decide +kernel
theorem dP_quantified_0 : decode bP_quantified 0 = .ok (.aload_n 0, 1) := by decide +kernel
theorem dP_quantified_1 : decode bP_quantified 1 = .ok (.aload_n 0, 1) := by decide +kernel
theorem dP_quantified_2 : decode bP_quantified 2 = .ok (.invokevirtual 112, 3) := by decide +kernel
theorem dP_quantified_5 : decode bP_quantified 5 = .ok (.invokevirtual 68, 3) := by decide +kernel
theorem dP_quantified_8 : decode bP_quantified 8 = .ok (.astore_n 2, 1) := by decide +kernel
theorem dP_quantified_9 : decode bP_quantified 9 = .ok (.aload_n 0, 1) := by decide +kernel
theorem dP_quantified_10 : decode bP_quantified 10 = .ok (.dup, 1) := by decide +kernel
theorem dP_quantified_11 : decode bP_quantified 11 = .ok (.getfield 55, 3) := by decide +kernel
theorem dP_quantified_14 : decode bP_quantified 14 = .ok (.iconst 1, 1) := by decide +kernel
theorem dP_quantified_15 : decode bP_quantified 15 = .ok (.iadd, 1) := by decide +kernel
theorem dP_quantified_16 : decode bP_quantified 16 = .ok (.putfield 55, 3) := by decide +kernel
theorem dP_quantified_19 : decode bP_quantified 19 = .ok (.aload_n 0, 1) := by decide +kernel
theorem dP_quantified_20 : decode bP_quantified 20 = .ok (.getfield 55, 3) := by decide +kernel
theorem dP_quantified_23 : decode bP_quantified 23 = .ok (.iconst 4, 1) := by decide +kernel
theorem dP_quantified_24 : decode bP_quantified 24 = .ok (.if_icmp .gt 7, 3) := by decide +kernel
theorem dP_quantified_27 : decode bP_quantified 27 = .ok (.iconst 1, 1) := by decide +kernel
theorem dP_quantified_28 : decode bP_quantified 28 = .ok (.goto 4, 3) := by decide +kernel
theorem dP_quantified_31 : decode bP_quantified 31 = .ok (.iconst 0, 1) := by decide +kernel
theorem dP_quantified_32 : decode bP_quantified 32 = .ok (.invokestatic 51, 3) := by decide +kernel
theorem dP_quantified_35 : decode bP_quantified 35 = .ok (.ldc 15, 2) := by decide +kernel
theorem dP_quantified_37 : decode bP_quantified 37 = .ok (.aload_n 0, 1) := by decide +kernel
theorem dP_quantified_38 : decode bP_quantified 38 = .ok (.invokevirtual 112, 3) := by decide +kernel
theorem dP_quantified_41 : decode bP_quantified 41 = .ok (.invokevirtual 114, 3) := by decide +kernel
theorem dP_quantified_44 : decode bP_quantified 44 = .ok (.istore_n 3, 1) := by decide +kernel
theorem dP_quantified_45 : decode bP_quantified 45 = .ok (.iload_n 3, 1) := by decide +kernel
theorem dP_quantified_46 : decode bP_quantified 46 = .ok (.ifCond .lt 16, 3) := by decide +kernel
theorem dP_quantified_49 : decode bP_quantified 49 = .ok (.iload_n 3, 1) := by decide +kernel
theorem dP_quantified_50 : decode bP_quantified 50 = .ok (.aload_n 0, 1) := by decide +kernel
theorem dP_quantified_51 : decode bP_quantified 51 = .ok (.getfield 23, 3) := by decide +kernel
theorem dP_quantified_54 : decode bP_quantified 54 = .ok (.arraylength, 1) := by decide +kernel
theorem dP_quantified_55 : decode bP_quantified 55 = .ok (.if_icmp .ge 7, 3) := by decide +kernel
theorem dP_quantified_58 : decode bP_quantified 58 = .ok (.iconst 1, 1) := by decide +kernel
theorem dP_quantified_59 : decode bP_quantified 59 = .ok (.goto 4, 3) := by decide +kernel
theorem dP_quantified_62 : decode bP_quantified 62 = .ok (.iconst 0, 1) := by decide +kernel
theorem dP_quantified_63 : decode bP_quantified 63 = .ok (.invokestatic 51, 3) := by decide +kernel
theorem dP_quantified_66 : decode bP_quantified 66 = .ok (.aload_n 2, 1) := by decide +kernel
theorem dP_quantified_67 : decode bP_quantified 67 = .ok (.iload_n 3, 1) := by decide +kernel
theorem dP_quantified_68 : decode bP_quantified 68 = .ok (.putfield 118, 3) := by decide +kernel
theorem dP_quantified_71 : decode bP_quantified 71 = .ok (.aload_n 0, 1) := by decide +kernel
theorem dP_quantified_72 : decode bP_quantified 72 = .ok (.getfield 23, 3) := by decide +kernel
theorem dP_quantified_75 : decode bP_quantified 75 = .ok (.iload_n 3, 1) := by decide +kernel
theorem dP_quantified_76 : decode bP_quantified 76 = .ok (.baload, 1) := by decide +kernel
theorem dP_quantified_77 : decode bP_quantified 77 = .ok (.istore 4, 2) := by decide +kernel
theorem dP_quantified_79 : decode bP_quantified 79 = .ok (.aload_n 0, 1) := by decide +kernel
theorem dP_quantified_80 : decode bP_quantified 80 = .ok (.getfield 23, 3) := by decide +kernel
theorem dP_quantified_83 : decode bP_quantified 83 = .ok (.iload_n 3, 1) := by decide +kernel
theorem dP_quantified_84 : decode bP_quantified 84 = .ok (.iconst 1, 1) := by decide +kernel
theorem dP_quantified_85 : decode bP_quantified 85 = .ok (.bastore, 1) := by decide +kernel
theorem dP_quantified_86 : decode bP_quantified 86 = .ok (.aload_n 2, 1) := by decide +kernel
theorem dP_quantified_87 : decode bP_quantified 87 = .ok (.aload_n 0, 1) := by decide +kernel
theorem dP_quantified_88 : decode bP_quantified 88 = .ok (.iload_n 1, 1) := by decide +kernel
theorem dP_quantified_89 : decode bP_quantified 89 = .ok (.iconst 1, 1) := by decide +kernel
theorem dP_quantified_90 : decode bP_quantified 90 = .ok (.iadd, 1) := by decide +kernel
theorem dP_quantified_91 : decode bP_quantified 91 = .ok (.invokevirtual 83, 3) := by decide +kernel
theorem dP_quantified_94 : decode bP_quantified 94 = .ok (.putfield 72, 3) := by decide +kernel
theorem dP_quantified_97 : decode bP_quantified 97 = .ok (.aload_n 0, 1) := by decide +kernel
theorem dP_quantified_98 : decode bP_quantified 98 = .ok (.getfield 23, 3) := by decide +kernel
theorem dP_quantified_101 : decode bP_quantified 101 = .ok (.iload_n 3, 1) := by decide +kernel
theorem dP_quantified_102 : decode bP_quantified 102 = .ok (.iload 4, 2) := by decide +kernel
theorem dP_quantified_104 : decode bP_quantified 104 = .ok (.bastore, 1) := by decide +kernel
theorem dP_quantified_105 : decode bP_quantified 105 = .ok (.aload_n 2, 1) := by decide +kernel
theorem dP_quantified_106 : decode bP_quantified 106 = .ok (.areturn, 1) := by decide +kernel
theorem dP_bracketed_0 : decode bP_bracketed 0 = .ok (.aload_n 0, 1) := by decide +kernel
theorem dP_bracketed_1 : decode bP_bracketed 1 = .ok (.aload_n 0, 1) := by decide +kernel
theorem dP_bracketed_2 : decode bP_bracketed 2 = .ok (.invokevirtual 112, 3) := by decide +kernel
theorem dP_bracketed_5 : decode bP_bracketed 5 = .ok (.invokevirtual 68, 3) := by decide +kernel
theorem dP_bracketed_8 : decode bP_bracketed 8 = .ok (.astore_n 2, 1) := by decide +kernel
theorem dP_bracketed_9 : decode bP_bracketed 9 = .ok (.aload_n 2, 1) := by decide +kernel
theorem dP_bracketed_10 : decode bP_bracketed 10 = .ok (.aload_n 0, 1) := by decide +kernel
theorem dP_bracketed_11 : decode bP_bracketed 11 = .ok (.bipush 124, 2) := by decide +kernel
theorem dP_bracketed_13 : decode bP_bracketed 13 = .ok (.iload_n 1, 1) := by decide +kernel
theorem dP_bracketed_14 : decode bP_bracketed 14 = .ok (.iconst 1, 1) := by decide +kernel
theorem dP_bracketed_15 : decode bP_bracketed 15 = .ok (.iadd, 1) := by decide +kernel
theorem dP_bracketed_16 : decode bP_bracketed 16 = .ok (.invokevirtual 40, 3) := by decide +kernel
theorem dP_bracketed_19 : decode bP_bracketed 19 = .ok (.putfield 72, 3) := by decide +kernel
theorem dP_bracketed_22 : decode bP_bracketed 22 = .ok (.aload_n 0, 1) := by decide +kernel
theorem dP_bracketed_23 : decode bP_bracketed 23 = .ok (.bipush 41, 2) := by decide +kernel
theorem dP_bracketed_25 : decode bP_bracketed 25 = .ok (.invokevirtual 76, 3) := by decide +kernel
theorem dP_bracketed_28 : decode bP_bracketed 28 = .ok (.invokestatic 51, 3) := by decide +kernel
theorem dP_bracketed_31 : decode bP_bracketed 31 = .ok (.aload_n 2, 1) := by decide +kernel
theorem dP_bracketed_32 : decode bP_bracketed 32 = .ok (.areturn, 1) := by decide +kernel
section
variable {p : Program} {l : Launch} {e : Env} {R : Room} {s : State} {m : MethodId} {args : Array Value} {below : List Frame} {meth : Method} {c : Code} {G : Gx} {M0 M' : Mem} {r : Option Value ⊕ Nat} {d : Nat} {C : Cx}

def fN_init_0 (n d : Nat) (C : Cx) (a0 : Nat) (M : Mem) : Rz := some (.inl none, M)
set_option maxRecDepth 100000 in
set_option maxHeartbeats 4000000 in
theorem tN_init_0 {n : Nat} (F : FX p s m meth c G R M0 d "HeadCount$Node" bN_init 1 none) (hin : meth.name = "<init>") (hC : CBs l G d C) : ∀ (a0 : Nat) (M : Mem) (H : Heap) (locs : List Loc) (cells slots : Nat) (ls : Array Slot), fN_init_0 n d C a0 M = some (r, M') → RL G M0 M H locs cells slots → lv_has ls 1 [(0, .ref a0)] → W p l e R s m args below meth c H locs cells slots (CQ G below s M0 r M') (F0 m 0 ls []) := by
  obtain ⟨hx, hb, hml, hown, hrt, hlk, hex, hK, hRm⟩ := id F
  intro a0 M H locs cells slots ls h hR hl
  unfold fN_init_0 at h
  refine lv_aload_n hx hb dN_init_0 rfl (lv_at hl 0 rfl) ?_
  refine W.objInit hx hb hown (hK.w kl_N_1 rfl args) (hK.w oi1 rfl args) (hK.w oi2 rfl args) rfl (hl.1.trans hml.symm) rfl dN_init_1 (Nat.le_trans (Nat.le_add_left 1 d) hRm.1) (by have := hRm.2.1; simp [cat_rf, cat_i, cat_a, cat_l, cat_n]; omega) ?_
  cases h
  exact rt_v hx hb hlk hrt hR dN_init_4
set_option maxRecDepth 100000 in
set_option maxHeartbeats 4000000 in
theorem sN_init {l : Launch} {G : Gx} {n d : Nat} {C : Cx} (hC : CBs l G d C) (a0 : Nat) {M M' : Mem} {r : Option Value ⊕ Nat} (h : fN_init_0 n d C a0 M = some (r, M')) : CB l G (d + 1) yN_init [.ref a0] M r M' := by
  intro p e R s m below meth c hx hn hm hc hlk hK hR hcap hS hU hfr hlo hrc hrs
  obtain ⟨hb, hml, hrt, hex, hown⟩ := fx_of hn hm hc (hK.w mfN_init.2.2.1 rfl #[])
  have F : FX p s m meth c G R M d "HeadCount$Node" bN_init 1 none := ⟨hx, hb, hml, hown, hrt, hlk, hex, hK, hfr, hlo, by rw [← hcap]; exact hrc, hrs⟩
  rw [hml]
  have hl := lv_entry ([.ref a0]) (n := 1) (by simp [lg_sl, cat_rf, cat_i, cat_a, cat_l, cat_n])
  rw [lg_entry_eq]
  generalize (lg_sl ([.ref a0]) ++ List.replicate (1 - (lg_sl ([.ref a0])).length) Slot.unset).toArray = ls at hl ⊢
  have hl : lv_has ls 1 [(0, .ref a0)] := by simpa [lv_args, cat_rf, cat_i, cat_a, cat_l, cat_n] using hl
  exact tN_init_0 F (name_of_methodNamed hn hm).1 hC a0 _ _ _ _ _ _ h (RL.start hR hcap hS hU) (lv_sub hl [0] rfl)
def fN_reset_0 (n d : Nat) (C : Cx) (a0 : Nat) (x1 : Int32) (M : Mem) : Rz := if mK M a0 = 4 then (if fits .char (.int x1) = true then (rzM (setI M a0 0 x1) fun M_3 => (rzM (setI M_3 a0 1 0) fun M_6 => (rzM (setI M_6 a0 2 0) fun M_9 => (rzM (setP M_9 a0 3 none) fun M_12 => (rzM (setP M_12 a0 4 none) fun M_15 => (some (.inl none, M_15))))))) else none) else none
set_option maxRecDepth 100000 in
set_option maxHeartbeats 4000000 in
theorem tN_reset_0 {n : Nat} (F : FX p s m meth c G R M0 d "HeadCount$Node" bN_reset 2 none) (hC : CBs l G d C) : ∀ (a0 : Nat) (x1 : Int32) (M : Mem) (H : Heap) (locs : List Loc) (cells slots : Nat) (ls : Array Slot), fN_reset_0 n d C a0 x1 M = some (r, M') → RL G M0 M H locs cells slots → lv_has ls 2 [(0, .ref a0), (1, .int x1)] → W p l e R s m args below meth c H locs cells slots (CQ G below s M0 r M') (F0 m 0 ls []) := by
  obtain ⟨hx, hb, hml, hown, hrt, hlk, hex, hK, hRm⟩ := id F
  intro a0 x1 M H locs cells slots ls h hR hl
  unfold fN_reset_0 at h
  refine lv_aload_n hx hb dN_reset_0 rfl (lv_at hl 0 rfl) ?_
  refine lv_iload_n hx hb dN_reset_1 rfl (lv_at hl 1 rfl) ?_
  obtain ⟨c_1, h⟩ := rz_chk h
  obtain ⟨c_2, h⟩ := rz_chk h
  obtain ⟨M_3, q_4, h⟩ := rz_m h
  refine rg_putI hx hb hown hK hR hk_N 0 (by decide) kf_N_7 rfl rfl (ty := .char) (by decide +kernel) (Or.inr (Or.inl rfl)) c_2 c_1 dN_reset_2 (fun H locs hR => ?_)
  rw [← q_4] at hR
  have c_5 : mK M_3 a0 = 4 := by rw [q_4]; exact c_1
  refine lv_aload_n hx hb dN_reset_5 rfl (lv_at hl 0 rfl) ?_
  refine lv_iconst (v := 0) hx hb dN_reset_6 (by decide) ?_
  obtain ⟨M_6, q_7, h⟩ := rz_m h
  refine rg_putI hx hb hown hK hR hk_N 1 (by decide) kf_N_13 rfl rfl (ty := .int) (by decide +kernel) (Or.inl rfl) rfl c_5 dN_reset_7 (fun H locs hR => ?_)
  rw [← q_7] at hR
  have c_8 : mK M_6 a0 = 4 := by rw [q_7]; exact c_5
  refine lv_aload_n hx hb dN_reset_10 rfl (lv_at hl 0 rfl) ?_
  refine lv_iconst (v := 0) hx hb dN_reset_11 (by decide) ?_
  obtain ⟨M_9, q_10, h⟩ := rz_m h
  refine rg_putI hx hb hown hK hR hk_N 2 (by decide) kf_N_17 rfl rfl (ty := .int) (by decide +kernel) (Or.inl rfl) rfl c_8 dN_reset_12 (fun H locs hR => ?_)
  rw [← q_10] at hR
  have c_11 : mK M_9 a0 = 4 := by rw [q_10]; exact c_8
  refine lv_aload_n hx hb dN_reset_15 rfl (lv_at hl 0 rfl) ?_
  refine lv_null hx hb dN_reset_16 ?_
  obtain ⟨M_12, q_13, h⟩ := rz_m h
  refine rg_putP (r := none) hx hb hown hK hR hk_N 3 (by decide) kf_N_20 rfl rfl (ty := .object "HeadCount$Node") (by decide +kernel) (Or.inl ⟨_, rfl⟩) c_11 dN_reset_17 (fun H locs hR => ?_)
  rw [← q_13] at hR
  have c_14 : mK M_12 a0 = 4 := by rw [q_13]; exact c_11
  refine lv_aload_n hx hb dN_reset_20 rfl (lv_at hl 0 rfl) ?_
  refine lv_null hx hb dN_reset_21 ?_
  obtain ⟨M_15, q_16, h⟩ := rz_m h
  refine rg_putP (r := none) hx hb hown hK hR hk_N 4 (by decide) kf_N_24 rfl rfl (ty := .object "HeadCount$Node") (by decide +kernel) (Or.inl ⟨_, rfl⟩) c_14 dN_reset_22 (fun H locs hR => ?_)
  rw [← q_16] at hR
  have c_17 : mK M_15 a0 = 4 := by rw [q_16]; exact c_14
  cases h
  exact rt_v hx hb hlk hrt hR dN_reset_25
set_option maxRecDepth 100000 in
set_option maxHeartbeats 4000000 in
theorem sN_reset {l : Launch} {G : Gx} {n d : Nat} {C : Cx} (hC : CBs l G d C) (a0 : Nat) (x1 : Int32) {M M' : Mem} {r : Option Value ⊕ Nat} (h : fN_reset_0 n d C a0 x1 M = some (r, M')) : CB l G (d + 1) yN_reset [.ref a0, .int x1] M r M' := by
  intro p e R s m below meth c hx hn hm hc hlk hK hR hcap hS hU hfr hlo hrc hrs
  obtain ⟨hb, hml, hrt, hex, hown⟩ := fx_of hn hm hc (hK.w mfN_reset.2.2.1 rfl #[])
  have F : FX p s m meth c G R M d "HeadCount$Node" bN_reset 2 none := ⟨hx, hb, hml, hown, hrt, hlk, hex, hK, hfr, hlo, by rw [← hcap]; exact hrc, hrs⟩
  rw [hml]
  have hl := lv_entry ([.ref a0, .int x1]) (n := 2) (by simp [lg_sl, cat_rf, cat_i, cat_a, cat_l, cat_n])
  rw [lg_entry_eq]
  generalize (lg_sl ([.ref a0, .int x1]) ++ List.replicate (2 - (lg_sl ([.ref a0, .int x1])).length) Slot.unset).toArray = ls at hl ⊢
  have hl : lv_has ls 2 [(0, .ref a0), (1, .int x1)] := by simpa [lv_args, cat_rf, cat_i, cat_a, cat_l, cat_n] using hl
  exact tN_reset_0 F hC a0 x1 _ _ _ _ _ _ h (RL.start hR hcap hS hU) (lv_sub hl [0, 1] rfl)
def fP_init_0 (n d : Nat) (C : Cx) (a0 : Nat) (M : Mem) : Rz := if ¬ (120 : Int32) < 0 then (if (120 : Int32).toNatClampNeg ≤ 1000 then (if mS M + 1 ≤ mC M 0 then (if mU M + (120 : Int32).toNatClampNeg ≤ SLm then (rzM (newC M 22 ((120 : Int32).toNatClampNeg) ((120 : Int32).toNatClampNeg)) fun M_5 => (if mK M_5 a0 = 2 then (rzM (setP M_5 a0 0 (some (mS M))) fun M_9 => (if (mC M_9 1) = mC M_9 1 then (rzC (C 2 [.ref (mC M_9 1)] M_9) fun v_13 M_14 => (rzI v_13 fun x_18 => (if ¬ x_18 < 0 then (if x_18.toNatClampNeg ≤ 1000 then (if mS M_14 + 1 ≤ mC M_14 0 then (if mU M_14 + x_18.toNatClampNeg ≤ SLm then (rzM (newC M_14 23 (x_18.toNatClampNeg) (x_18.toNatClampNeg)) fun M_23 => (if mK M_23 a0 = 2 then (rzM (setP M_23 a0 4 (some (mS M_14))) fun M_27 => (if ¬ (120 : Int32) < 0 then (if (120 : Int32).toNatClampNeg ≤ 1000 then (if mS M_27 + 1 ≤ mC M_27 0 then (if mU M_27 + (120 : Int32).toNatClampNeg ≤ SLm then (rzM (newC M_27 25 ((120 : Int32).toNatClampNeg) ((120 : Int32).toNatClampNeg)) fun M_35 => (rzM (setP M_35 a0 5 (some (mS M_27))) fun M_40 => (if ¬ (120 : Int32) < 0 then (if (120 : Int32).toNatClampNeg ≤ 1000 then (if mS M_40 + 1 ≤ mC M_40 0 then (if mU M_40 + (120 : Int32).toNatClampNeg ≤ SLm then (rzM (newC M_40 25 ((120 : Int32).toNatClampNeg) ((120 : Int32).toNatClampNeg)) fun M_49 => (rzM (setP M_49 a0 6 (some (mS M_40))) fun M_55 => (some (.inl none, M_55)))) else none) else none) else none) else none))) else none) else none) else none) else none)) else none)) else none) else none) else none) else none))) else none)) else none)) else none) else none) else none) else none
set_option maxRecDepth 100000 in
set_option maxHeartbeats 4000000 in
theorem tP_init_0 {n : Nat} (F : FX p s m meth c G R M0 d "HeadCount$Parser" bP_init 1 none) (hin : meth.name = "<init>") (hC : CBs l G d C) : ∀ (a0 : Nat) (M : Mem) (H : Heap) (locs : List Loc) (cells slots : Nat) (ls : Array Slot), fP_init_0 n d C a0 M = some (r, M') → RL G M0 M H locs cells slots → lv_has ls 1 [(0, .ref a0)] → W p l e R s m args below meth c H locs cells slots (CQ G below s M0 r M') (F0 m 0 ls []) := by
  obtain ⟨hx, hb, hml, hown, hrt, hlk, hex, hK, hRm⟩ := id F
  intro a0 M H locs cells slots ls h hR hl
  unfold fP_init_0 at h
  refine lv_aload_n hx hb dP_init_0 rfl (lv_at hl 0 rfl) ?_
  refine W.objInit hx hb hown (hK.w kl_P_3 rfl args) (hK.w oi1 rfl args) (hK.w oi2 rfl args) rfl (hl.1.trans hml.symm) rfl dP_init_1 (Nat.le_trans (Nat.le_add_left 1 d) hRm.1) (by have := hRm.2.1; simp [cat_rf, cat_i, cat_a, cat_l, cat_n]; omega) ?_
  refine lv_aload_n hx hb dP_init_4 rfl (lv_at hl 0 rfl) ?_
  refine lv_bipush (v := 120) hx hb dP_init_5 (by decide) ?_
  obtain ⟨c_1, h⟩ := rz_chk h
  obtain ⟨c_2, h⟩ := rz_chk h
  obtain ⟨c_3, h⟩ := rz_chk h
  obtain ⟨c_4, h⟩ := rz_chk h
  obtain ⟨M_5, q_6, h⟩ := rz_m h
  have hR0 := hR
  refine rg_newa (kd := 22) (atype := .char) (ty := .char) hx hb hK hR hRm rfl (by decide) ka_char c_1 c_2 c_3 c_4 dP_init_7 (fun H hR => ?_)
  rw [← q_6] at hR
  have c_7 : mK M_5 (mS M) = 22 := by rw [q_6, mK_newC, va_up_self]
  obtain ⟨c_8, h⟩ := rz_chk h
  obtain ⟨M_9, q_10, h⟩ := rz_m h
  refine rg_putF (r := some (mS M)) hx hb hown hK hR hk_P 0 (by decide) kf_P_9 rfl hin rfl rfl (ty := .array .char) (by decide +kernel) (Or.inr ⟨_, rfl⟩) c_8 dP_init_9 (fun H locs hR => ?_)
  rw [← q_10] at hR
  have c_11 : mK M_9 (mS M) = 22 := by rw [q_10]; exact c_7
  have c_12 : mK M_9 a0 = 2 := by rw [q_10]; exact c_8
  refine lv_aload_n hx hb dP_init_12 rfl (lv_at hl 0 rfl) ?_
  have hcc := hR.2.2.2.2.1
  refine va_ldcS (q := mC M_9 1) hx hb hown (by rw [hcc]; exact hK.2.2.2.1.1) dP_init_13 ?_
  obtain ⟨c_17, h⟩ := rz_chk h
  obtain ⟨q_16, M_14, h_15, h⟩ := rz_c h
  refine rc_VS (rest := [.ref a0]) (As := []) hx hb (hl.1.trans hml.symm) hown hK hR hRm mfS_length kl_P_17 rfl rfl c_17 (by simp [cat_rf, cat_i, cat_a, cat_l, cat_n]) (hC 2 _ _ _ _ h_15) dP_init_15 (fun v1 H locs cells slots ev hR => ?_) (fun x1 q1 ce1 H locs cells slots ex hR g1 g2 g3 => ?_)
  · rcases h with ⟨v_13, ev2, h⟩ | ⟨e2, ee2, -⟩
    · cases ev.symm.trans ev2
      replace h := rz_i h
      obtain ⟨x_18, rfl, h⟩ := h
      dsimp only [Option.toList, List.cons_append, List.nil_append]
      obtain ⟨c_19, h⟩ := rz_chk h
      obtain ⟨c_20, h⟩ := rz_chk h
      obtain ⟨c_21, h⟩ := rz_chk h
      obtain ⟨c_22, h⟩ := rz_chk h
      obtain ⟨M_23, q_24, h⟩ := rz_m h
      have hR0 := hR
      refine rg_newa (kd := 23) (atype := .boolean) (ty := .boolean) hx hb hK hR hRm rfl (by decide) ka_boolean c_19 c_20 c_21 c_22 dP_init_18 (fun H hR => ?_)
      rw [← q_24] at hR
      have c_25 : mK M_23 (mS M_14) = 23 := by rw [q_24, mK_newC, va_up_self]
      obtain ⟨c_26, h⟩ := rz_chk h
      obtain ⟨M_27, q_28, h⟩ := rz_m h
      refine rg_putF (r := some (mS M_14)) hx hb hown hK hR hk_P 4 (by decide) kf_P_23 rfl hin rfl rfl (ty := .array .boolean) (by decide +kernel) (Or.inr ⟨_, rfl⟩) c_26 dP_init_20 (fun H locs hR => ?_)
      rw [← q_28] at hR
      have c_29 : mK M_27 (mS M_14) = 23 := by rw [q_28]; exact c_25
      have c_30 : mK M_27 a0 = 2 := by rw [q_28]; exact c_26
      refine lv_aload_n hx hb dP_init_23 rfl (lv_at hl 0 rfl) ?_
      refine lv_bipush (v := 120) hx hb dP_init_24 (by decide) ?_
      obtain ⟨c_31, h⟩ := rz_chk h
      obtain ⟨c_32, h⟩ := rz_chk h
      obtain ⟨c_33, h⟩ := rz_chk h
      obtain ⟨c_34, h⟩ := rz_chk h
      obtain ⟨M_35, q_36, h⟩ := rz_m h
      have hR0 := hR
      refine rg_newq hx hb hown hK hR hRm kc_P_27 c_31 c_32 c_33 c_34 dP_init_26 (fun H hR => ?_)
      rw [← q_36] at hR
      have c_37 : mK M_35 (mS M_14) = 23 := by rw [q_36]; exact kn_keep hR0 c_29 (by decide)
      have c_38 : mK M_35 a0 = 2 := by rw [q_36]; exact kn_keep hR0 c_30 (by decide)
      have c_39 : mK M_35 (mS M_27) = 25 := by rw [q_36, mK_newC, va_up_self]
      obtain ⟨M_40, q_41, h⟩ := rz_m h
      refine rg_putP (r := some (mS M_27)) hx hb hown hK hR hk_P 5 (by decide) kf_P_29 rfl rfl (ty := .array (.object "HeadCount$Node")) (by decide +kernel) (Or.inr ⟨_, rfl⟩) c_38 dP_init_29 (fun H locs hR => ?_)
      rw [← q_41] at hR
      have c_42 : mK M_40 (mS M_14) = 23 := by rw [q_41]; exact c_37
      have c_43 : mK M_40 a0 = 2 := by rw [q_41]; exact c_38
      have c_44 : mK M_40 (mS M_27) = 25 := by rw [q_41]; exact c_39
      refine lv_aload_n hx hb dP_init_32 rfl (lv_at hl 0 rfl) ?_
      refine lv_bipush (v := 120) hx hb dP_init_33 (by decide) ?_
      obtain ⟨c_45, h⟩ := rz_chk h
      obtain ⟨c_46, h⟩ := rz_chk h
      obtain ⟨c_47, h⟩ := rz_chk h
      obtain ⟨c_48, h⟩ := rz_chk h
      obtain ⟨M_49, q_50, h⟩ := rz_m h
      have hR0 := hR
      refine rg_newq hx hb hown hK hR hRm kc_P_27 c_45 c_46 c_47 c_48 dP_init_35 (fun H hR => ?_)
      rw [← q_50] at hR
      have c_51 : mK M_49 (mS M_14) = 23 := by rw [q_50]; exact kn_keep hR0 c_42 (by decide)
      have c_52 : mK M_49 a0 = 2 := by rw [q_50]; exact kn_keep hR0 c_43 (by decide)
      have c_53 : mK M_49 (mS M_27) = 25 := by rw [q_50]; exact kn_keep hR0 c_44 (by decide)
      have c_54 : mK M_49 (mS M_40) = 25 := by rw [q_50, mK_newC, va_up_self]
      obtain ⟨M_55, q_56, h⟩ := rz_m h
      refine rg_putP (r := some (mS M_40)) hx hb hown hK hR hk_P 6 (by decide) kf_P_33 rfl rfl (ty := .array (.object "HeadCount$Node")) (by decide +kernel) (Or.inr ⟨_, rfl⟩) c_52 dP_init_38 (fun H locs hR => ?_)
      rw [← q_56] at hR
      have c_57 : mK M_55 (mS M_14) = 23 := by rw [q_56]; exact c_51
      have c_58 : mK M_55 a0 = 2 := by rw [q_56]; exact c_52
      have c_59 : mK M_55 (mS M_27) = 25 := by rw [q_56]; exact c_53
      have c_60 : mK M_55 (mS M_40) = 25 := by rw [q_56]; exact c_54
      cases h
      exact rt_v hx hb hlk hrt hR dP_init_41
    · cases ev.symm.trans ee2
  · rcases h with ⟨v2, ev2, -⟩ | ⟨e2, ee2, h⟩
    · cases ex.symm.trans ev2
    · cases ex.symm.trans ee2
      cases h
      exact rt_x hlk hex hR g1 g2 g3
set_option maxRecDepth 100000 in
set_option maxHeartbeats 4000000 in
theorem sP_init {l : Launch} {G : Gx} {n d : Nat} {C : Cx} (hC : CBs l G d C) (a0 : Nat) {M M' : Mem} {r : Option Value ⊕ Nat} (h : fP_init_0 n d C a0 M = some (r, M')) : CB l G (d + 1) yP_init [.ref a0] M r M' := by
  intro p e R s m below meth c hx hn hm hc hlk hK hR hcap hS hU hfr hlo hrc hrs
  obtain ⟨hb, hml, hrt, hex, hown⟩ := fx_of hn hm hc (hK.w mfP_init.2.2.1 rfl #[])
  have F : FX p s m meth c G R M d "HeadCount$Parser" bP_init 1 none := ⟨hx, hb, hml, hown, hrt, hlk, hex, hK, hfr, hlo, by rw [← hcap]; exact hrc, hrs⟩
  rw [hml]
  have hl := lv_entry ([.ref a0]) (n := 1) (by simp [lg_sl, cat_rf, cat_i, cat_a, cat_l, cat_n])
  rw [lg_entry_eq]
  generalize (lg_sl ([.ref a0]) ++ List.replicate (1 - (lg_sl ([.ref a0])).length) Slot.unset).toArray = ls at hl ⊢
  have hl : lv_has ls 1 [(0, .ref a0)] := by simpa [lv_args, cat_rf, cat_i, cat_a, cat_l, cat_n] using hl
  exact tP_init_0 F (name_of_methodNamed hn hm).1 hC a0 _ _ _ _ _ _ h (RL.start hR hcap hS hU) (lv_sub hl [0] rfl)
def fP_parse_30 (n d : Nat) (C : Cx) (a0 : Nat) (r3 : Option Nat) (xs0 : Int32) (M : Mem) : Rz := rzC (C 16 [.int xs0] M) fun v_1 M_2 => (rzV v_1 (if mK M_2 a0 = 2 then (rzM (setP M_2 a0 5 (mP M_2 a0 6)) fun M_6 => (rzM (setP M_6 a0 6 (mP M_2 a0 5)) fun M_9 => (some (.inl (some (va_rf r3)), M_9)))) else none))
set_option maxRecDepth 100000 in
set_option maxHeartbeats 4000000 in
theorem tP_parse_30 {n : Nat} (F : FX p s m meth c G R M0 d "HeadCount$Parser" bP_parse 5 (some (.object "HeadCount$Node"))) (hC : CBs l G d C) : ∀ (a0 : Nat) (r3 : Option Nat) (xs0 : Int32) (M : Mem) (H : Heap) (locs : List Loc) (cells slots : Nat) (ls : Array Slot), fP_parse_30 n d C a0 r3 xs0 M = some (r, M') → RL G M0 M H locs cells slots → lv_has ls 5 [(0, .ref a0), (3, va_rf r3)] → W p l e R s m args below meth c H locs cells slots (CQ G below s M0 r M') (F0 m 30 ls [.int xs0]) := by
  obtain ⟨hx, hb, hml, hown, hrt, hlk, hex, hK, hRm⟩ := id F
  intro a0 r3 xs0 M H locs cells slots ls h hR hl
  unfold fP_parse_30 at h
  obtain ⟨q_4, M_2, h_3, h⟩ := rz_c h
  refine rc_S (rest := []) (As := [.int xs0]) hx hb (hl.1.trans hml.symm) hown hK hR hRm mfP_insist kl_P_51 rfl (by simp [cat_rf, cat_i, cat_a, cat_l, cat_n]) (hC 16 _ _ _ _ h_3) dP_parse_30 (fun v1 H locs cells slots ev hR => ?_) (fun x1 q1 ce1 H locs cells slots ex hR g1 g2 g3 => ?_)
  · rcases h with ⟨v_1, ev2, h⟩ | ⟨e2, ee2, -⟩
    · cases ev.symm.trans ev2
      replace h := rz_v h
      obtain ⟨rfl, h⟩ := h
      dsimp only [Option.toList, List.cons_append, List.nil_append]
      refine lv_aload_n hx hb dP_parse_33 rfl (lv_at hl 0 rfl) ?_
      obtain ⟨c_5, h⟩ := rz_chk h
      refine rg_getP hx hb hown hK hR hk_P 5 (by decide) kf_P_29 rfl c_5 dP_parse_34 ?_
      refine lr_astore (lv' := [(4, va_rf (mP M_2 a0 5)), (0, .ref a0), (3, va_rf r3)]) hx hb dP_parse_37 hl (by decide) (by first | (simp [cat_rf, cat_i, cat_a, cat_l, cat_n]; done) | (simp [cat_rf, cat_i, cat_a, cat_l, cat_n]; decide)) (fun ls hl => ?_)
      refine lv_aload_n hx hb dP_parse_39 rfl (lv_at hl 1 rfl) ?_
      refine lv_aload_n hx hb dP_parse_40 rfl (lv_at hl 1 rfl) ?_
      refine rg_getP hx hb hown hK hR hk_P 6 (by decide) kf_P_33 rfl c_5 dP_parse_41 ?_
      obtain ⟨M_6, q_7, h⟩ := rz_m h
      refine rg_putP (r := mP M_2 a0 6) hx hb hown hK hR hk_P 5 (by decide) kf_P_29 rfl rfl (ty := .array (.object "HeadCount$Node")) (by decide +kernel) (Or.inr ⟨_, rfl⟩) c_5 dP_parse_44 (fun H locs hR => ?_)
      rw [← q_7] at hR
      have c_8 : mK M_6 a0 = 2 := by rw [q_7]; exact c_5
      refine lv_aload_n hx hb dP_parse_47 rfl (lv_at hl 1 rfl) ?_
      refine lr_aload hx hb dP_parse_48 (lv_at hl 0 rfl) ?_
      obtain ⟨M_9, q_10, h⟩ := rz_m h
      refine rg_putP (r := mP M_2 a0 5) hx hb hown hK hR hk_P 6 (by decide) kf_P_33 rfl rfl (ty := .array (.object "HeadCount$Node")) (by decide +kernel) (Or.inr ⟨_, rfl⟩) c_8 dP_parse_50 (fun H locs hR => ?_)
      rw [← q_10] at hR
      have c_11 : mK M_9 a0 = 2 := by rw [q_10]; exact c_8
      refine lr_aload_n hx hb dP_parse_53 rfl (lv_at hl 2 rfl) ?_
      cases h
      exact rt_a (r := r3) hx hb hlk hrt (Or.inl ⟨_, rfl⟩) hR dP_parse_54
    · cases ev.symm.trans ee2
  · rcases h with ⟨v2, ev2, -⟩ | ⟨e2, ee2, h⟩
    · cases ex.symm.trans ev2
    · cases ex.symm.trans ee2
      cases h
      exact rt_x hlk hex hR g1 g2 g3
def fP_parse_0 (n d : Nat) (C : Cx) (a0 : Nat) (r1 : Option Nat) (x2 : Int32) (M : Mem) : Rz := if mK M a0 = 2 then (rzC (C 12 [.ref a0, va_rf r1, .int x2] M) fun v_2 M_3 => (rzV v_2 (if mK M_3 a0 = 2 then (rzC (C 13 [.ref a0, .int 124, .int 0] M_3) fun v_7 M_8 => (rzP v_7 fun r_11 => (if mK M_8 a0 = 2 then (if (mI M_8 a0 2) = (mI M_8 a0 1) then (fP_parse_30 n d C a0 r_11 1 M_8) else (fP_parse_30 n d C a0 r_11 0 M_8)) else none))) else none))) else none
set_option maxRecDepth 100000 in
set_option maxHeartbeats 4000000 in
theorem tP_parse_0 {n : Nat} (F : FX p s m meth c G R M0 d "HeadCount$Parser" bP_parse 5 (some (.object "HeadCount$Node"))) (hC : CBs l G d C) : ∀ (a0 : Nat) (r1 : Option Nat) (x2 : Int32) (M : Mem) (H : Heap) (locs : List Loc) (cells slots : Nat) (ls : Array Slot), fP_parse_0 n d C a0 r1 x2 M = some (r, M') → RL G M0 M H locs cells slots → lv_has ls 5 [(0, .ref a0), (1, va_rf r1), (2, .int x2)] → W p l e R s m args below meth c H locs cells slots (CQ G below s M0 r M') (F0 m 0 ls []) := by
  obtain ⟨hx, hb, hml, hown, hrt, hlk, hex, hK, hRm⟩ := id F
  intro a0 r1 x2 M H locs cells slots ls h hR hl
  unfold fP_parse_0 at h
  refine lv_aload_n hx hb dP_parse_0 rfl (lv_at hl 0 rfl) ?_
  refine lr_aload_n hx hb dP_parse_1 rfl (lv_at hl 1 rfl) ?_
  refine lv_iload_n hx hb dP_parse_2 rfl (lv_at hl 2 rfl) ?_
  obtain ⟨c_1, h⟩ := rz_chk h
  obtain ⟨q_5, M_3, h_4, h⟩ := rz_c h
  refine rc_V (rest := []) (As := [va_rf r1, .int x2]) hx hb (hl.1.trans hml.symm) hown hK hR hRm mfP_start kl_P_36 hk_P rfl rfl c_1 (by simp [cat_rf, cat_i, cat_a, cat_l, cat_n]) (hC 12 _ _ _ _ h_4) dP_parse_3 (fun v1 H locs cells slots ev hR => ?_) (fun x1 q1 ce1 H locs cells slots ex hR g1 g2 g3 => ?_)
  · rcases h with ⟨v_2, ev2, h⟩ | ⟨e2, ee2, -⟩
    · cases ev.symm.trans ev2
      replace h := rz_v h
      obtain ⟨rfl, h⟩ := h
      dsimp only [Option.toList, List.cons_append, List.nil_append]
      refine lv_aload_n hx hb dP_parse_6 rfl (lv_at hl 0 rfl) ?_
      refine lv_bipush (v := 124) hx hb dP_parse_7 (by decide) ?_
      refine lv_iconst (v := 0) hx hb dP_parse_9 (by decide) ?_
      obtain ⟨c_6, h⟩ := rz_chk h
      obtain ⟨q_10, M_8, h_9, h⟩ := rz_c h
      refine rc_V (rest := []) (As := [.int 124, .int 0]) hx hb (hl.1.trans hml.symm) hown hK hR hRm mfP_row kl_P_40 hk_P rfl rfl c_6 (by simp [cat_rf, cat_i, cat_a, cat_l, cat_n]) (hC 13 _ _ _ _ h_9) dP_parse_10 (fun v1 H locs cells slots ev hR => ?_) (fun x1 q1 ce1 H locs cells slots ex hR g1 g2 g3 => ?_)
      · rcases h with ⟨v_7, ev2, h⟩ | ⟨e2, ee2, -⟩
        · cases ev.symm.trans ev2
          replace h := rz_p h
          obtain ⟨r_11, rfl, h⟩ := h
          dsimp only [Option.toList, List.cons_append, List.nil_append]
          refine lr_astore_n (lv' := [(3, va_rf r_11), (0, .ref a0), (1, va_rf r1), (2, .int x2)]) hx hb dP_parse_13 rfl hl (by decide) rfl (fun ls hl => ?_)
          refine lv_aload_n hx hb dP_parse_14 rfl (lv_at hl 1 rfl) ?_
          obtain ⟨c_12, h⟩ := rz_chk h
          refine rg_getI hx hb hown hK hR hk_P 2 (by decide) kf_P_44 rfl c_12 dP_parse_15 ?_
          refine lv_aload_n hx hb dP_parse_18 rfl (lv_at hl 1 rfl) ?_
          refine rg_getI hx hb hown hK hR hk_P 1 (by decide) kf_P_48 rfl c_12 dP_parse_19 ?_
          refine lv_icmp_ne (tgt := 29) hx hb dP_parse_22 (by decide) (fun c_13 => ?_) (fun c_13 => ?_)
          · replace h := rz_f c_13 h
            refine lv_iconst (v := 0) hx hb dP_parse_29 (by decide) ?_
            exact tP_parse_30 F hC a0 r_11 0 _ _ _ _ _ _ h hR (lv_sub hl [1, 0] rfl)
          · replace h := rz_t c_13 h
            refine lv_iconst (v := 1) hx hb dP_parse_25 (by decide) ?_
            refine lv_goto (tgt := 30) hx hb dP_parse_26 (by decide) ?_
            exact tP_parse_30 F hC a0 r_11 1 _ _ _ _ _ _ h hR (lv_sub hl [1, 0] rfl)
        · cases ev.symm.trans ee2
      · rcases h with ⟨v2, ev2, -⟩ | ⟨e2, ee2, h⟩
        · cases ex.symm.trans ev2
        · cases ex.symm.trans ee2
          cases h
          exact rt_x hlk hex hR g1 g2 g3
    · cases ev.symm.trans ee2
  · rcases h with ⟨v2, ev2, -⟩ | ⟨e2, ee2, h⟩
    · cases ex.symm.trans ev2
    · cases ex.symm.trans ee2
      cases h
      exact rt_x hlk hex hR g1 g2 g3
set_option maxRecDepth 100000 in
set_option maxHeartbeats 4000000 in
theorem sP_parse {l : Launch} {G : Gx} {n d : Nat} {C : Cx} (hC : CBs l G d C) (a0 : Nat) (r1 : Option Nat) (x2 : Int32) {M M' : Mem} {r : Option Value ⊕ Nat} (h : fP_parse_0 n d C a0 r1 x2 M = some (r, M')) : CB l G (d + 1) yP_parse [.ref a0, va_rf r1, .int x2] M r M' := by
  intro p e R s m below meth c hx hn hm hc hlk hK hR hcap hS hU hfr hlo hrc hrs
  obtain ⟨hb, hml, hrt, hex, hown⟩ := fx_of hn hm hc (hK.w mfP_parse.2.2.1 rfl #[])
  have F : FX p s m meth c G R M d "HeadCount$Parser" bP_parse 5 (some (.object "HeadCount$Node")) := ⟨hx, hb, hml, hown, hrt, hlk, hex, hK, hfr, hlo, by rw [← hcap]; exact hrc, hrs⟩
  rw [hml]
  have hl := lv_entry ([.ref a0, va_rf r1, .int x2]) (n := 5) (by simp [lg_sl, cat_rf, cat_i, cat_a, cat_l, cat_n])
  rw [lg_entry_eq]
  generalize (lg_sl ([.ref a0, va_rf r1, .int x2]) ++ List.replicate (5 - (lg_sl ([.ref a0, va_rf r1, .int x2])).length) Slot.unset).toArray = ls at hl ⊢
  have hl : lv_has ls 5 [(0, .ref a0), (1, va_rf r1), (2, .int x2)] := by simpa [lv_args, cat_rf, cat_i, cat_a, cat_l, cat_n] using hl
  exact tP_parse_0 F hC a0 r1 x2 _ _ _ _ _ _ h (RL.start hR hcap hS hU) (lv_sub hl [0, 1, 2] rfl)
def fP_start_99 (n d : Nat) (C : Cx) (k46 : Nat → Option Nat → Int32 → Int32 → Mem → Rz) (a0 : Nat) (r1 : Option Nat) (x2 : Int32) (x3 : Int32) (M : Mem) : Rz := k46 a0 r1 x2 (x3 + 1) M
set_option maxRecDepth 100000 in
set_option maxHeartbeats 4000000 in
theorem tP_start_99 {n : Nat} {k46 : Nat → Option Nat → Int32 → Int32 → Mem → Rz} (F : FX p s m meth c G R M0 d "HeadCount$Parser" bP_start 4 none) (hC : CBs l G d C) (hk46 : ∀ (a0 : Nat) (r1 : Option Nat) (x2 : Int32) (x3 : Int32) (M : Mem) (H : Heap) (locs : List Loc) (cells slots : Nat) (ls : Array Slot), k46 a0 r1 x2 x3 M = some (r, M') → RL G M0 M H locs cells slots → lv_has ls 4 [(0, .ref a0), (1, va_rf r1), (2, .int x2), (3, .int x3)] → W p l e R s m args below meth c H locs cells slots (CQ G below s M0 r M') (F0 m 46 ls [])) : ∀ (a0 : Nat) (r1 : Option Nat) (x2 : Int32) (x3 : Int32) (M : Mem) (H : Heap) (locs : List Loc) (cells slots : Nat) (ls : Array Slot), fP_start_99 n d C k46 a0 r1 x2 x3 M = some (r, M') → RL G M0 M H locs cells slots → lv_has ls 4 [(0, .ref a0), (1, va_rf r1), (2, .int x2), (3, .int x3)] → W p l e R s m args below meth c H locs cells slots (CQ G below s M0 r M') (F0 m 99 ls []) := by
  obtain ⟨hx, hb, hml, hown, hrt, hlk, hex, hK, hRm⟩ := id F
  intro a0 r1 x2 x3 M H locs cells slots ls h hR hl
  unfold fP_start_99 at h
  refine lv_iinc (k := 3) (v := x3 + 1) (lv' := [(3, .int (x3 + 1)), (0, .ref a0), (1, va_rf r1), (2, .int x2)]) hx hb dP_start_99 hl rfl (by rw [show Int32.ofInt 1 = 1 from by decide]) (by decide) rfl (fun ls hl => ?_)
  refine lv_goto (tgt := 46) hx hb dP_start_102 (by decide) ?_
  exact hk46 a0 r1 x2 (x3 + 1) _ _ _ _ _ _ h hR (lv_sub hl [1, 2, 3, 0] rfl)
def fP_start_105 (n d : Nat) (C : Cx) (M : Mem) : Rz := some (.inl none, M)
set_option maxRecDepth 100000 in
set_option maxHeartbeats 4000000 in
theorem tP_start_105 {n : Nat} (F : FX p s m meth c G R M0 d "HeadCount$Parser" bP_start 4 none) (hC : CBs l G d C) : ∀ (M : Mem) (H : Heap) (locs : List Loc) (cells slots : Nat) (ls : Array Slot), fP_start_105 n d C M = some (r, M') → RL G M0 M H locs cells slots → lv_has ls 4 [] → W p l e R s m args below meth c H locs cells slots (CQ G below s M0 r M') (F0 m 105 ls []) := by
  obtain ⟨hx, hb, hml, hown, hrt, hlk, hex, hK, hRm⟩ := id F
  intro M H locs cells slots ls h hR hl
  unfold fP_start_105 at h
  cases h
  exact rt_v hx hb hlk hrt hR dP_start_105
def fP_start_46 (n d : Nat) (C : Cx) : Nat → Nat → Option Nat → Int32 → Int32 → Mem → Rz
  | 0, _, _, _, _, _ => none
  | w + 1, a0, r1, x2, x3, M => if x2 ≤ x3 then (fP_start_105 n d C M) else (rzD r1 fun a_2 => (if mK M a_2 = 22 then (if (nI (mL M a_2)) ≤ x3 then (fP_start_105 n d C M) else (if mK M a0 = 2 then (rzD (mP M a0 0) fun a_7 => (if mK M a_7 = 22 then (if (nI (mL M a_7)) ≤ (mI M a0 1) then (fP_start_105 n d C M) else (if inA x3 (mL M a_2) then (if (mI M a_2 x3.toNatClampNeg) = 32 then (fP_start_99 n d C (fP_start_46 n d C w) a0 r1 x2 x3 M) else (if inA x3 (mL M a_2) then (if inA (mI M a0 1) (mL M a_7) then (if fits .char (.int (mI M a_2 x3.toNatClampNeg)) = true then (rzM (setI M a_7 (mI M a0 1).toNatClampNeg (mI M a_2 x3.toNatClampNeg)) fun M_16 => (rzM (setI M_16 a0 1 ((mI M_16 a0 1) + 1)) fun M_21 => (fP_start_99 n d C (fP_start_46 n d C w) a0 r1 x2 x3 M_21))) else none) else none) else none)) else none)) else none)) else none)) else none))
set_option maxRecDepth 100000 in
set_option maxHeartbeats 4000000 in
theorem tP_start_46 {n : Nat} (F : FX p s m meth c G R M0 d "HeadCount$Parser" bP_start 4 none) (hC : CBs l G d C) : ∀ (w : Nat) (a0 : Nat) (r1 : Option Nat) (x2 : Int32) (x3 : Int32) (M : Mem) (H : Heap) (locs : List Loc) (cells slots : Nat) (ls : Array Slot), fP_start_46 n d C w a0 r1 x2 x3 M = some (r, M') → RL G M0 M H locs cells slots → lv_has ls 4 [(0, .ref a0), (1, va_rf r1), (2, .int x2), (3, .int x3)] → W p l e R s m args below meth c H locs cells slots (CQ G below s M0 r M') (F0 m 46 ls []) := by
  obtain ⟨hx, hb, hml, hown, hrt, hlk, hex, hK, hRm⟩ := id F
  intro w
  induction w with
  | zero => intro a0 r1 x2 x3 M H locs cells slots ls h; cases h
  | succ w ih =>
    intro a0 r1 x2 x3 M H locs cells slots ls h hR hl
    rw [fP_start_46] at h
    refine lv_iload_n hx hb dP_start_46 rfl (lv_at hl 3 rfl) ?_
    refine lv_iload_n hx hb dP_start_47 rfl (lv_at hl 2 rfl) ?_
    refine lv_icmp_ge (tgt := 105) hx hb dP_start_48 (by decide) (fun c_1 => ?_) (fun c_1 => ?_)
    · replace h := rz_t c_1 h
      exact tP_start_105 F hC _ _ _ _ _ _ h hR (lv_sub hl [] rfl)
    · replace h := rz_f c_1 h
      refine lv_iload_n hx hb dP_start_51 rfl (lv_at hl 3 rfl) ?_
      refine lr_aload_n hx hb dP_start_52 rfl (lv_at hl 1 rfl) ?_
      obtain ⟨a_2, e_3, h⟩ := rz_d h
      rw [e_3]
      obtain ⟨c_4, h⟩ := rz_chk h
      refine rg_alen hx hb hK hR 22 c_4 (by decide) (by decide) dP_start_53 ?_
      refine lv_icmp_ge (tgt := 105) hx hb dP_start_54 (by decide) (fun c_5 => ?_) (fun c_5 => ?_)
      · replace h := rz_t c_5 h
        exact tP_start_105 F hC _ _ _ _ _ _ h hR (lv_sub hl [] rfl)
      · replace h := rz_f c_5 h
        refine lv_aload_n hx hb dP_start_57 rfl (lv_at hl 0 rfl) ?_
        obtain ⟨c_6, h⟩ := rz_chk h
        refine rg_getI hx hb hown hK hR hk_P 1 (by decide) kf_P_48 rfl c_6 dP_start_58 ?_
        refine lv_aload_n hx hb dP_start_61 rfl (lv_at hl 0 rfl) ?_
        refine rg_getP hx hb hown hK hR hk_P 0 (by decide) kf_P_9 rfl c_6 dP_start_62 ?_
        obtain ⟨a_7, e_8, h⟩ := rz_d h
        rw [e_8]
        obtain ⟨c_9, h⟩ := rz_chk h
        refine rg_alen hx hb hK hR 22 c_9 (by decide) (by decide) dP_start_65 ?_
        refine lv_icmp_ge (tgt := 105) hx hb dP_start_66 (by decide) (fun c_10 => ?_) (fun c_10 => ?_)
        · replace h := rz_t c_10 h
          exact tP_start_105 F hC _ _ _ _ _ _ h hR (lv_sub hl [] rfl)
        · replace h := rz_f c_10 h
          refine lr_aload_n hx hb dP_start_69 rfl (lv_at hl 1 rfl) ?_
          refine lv_iload_n hx hb dP_start_70 rfl (lv_at hl 3 rfl) ?_
          rw [e_3]
          obtain ⟨c_11, h⟩ := rz_chk h
          refine rg_cald hx hb hK hR c_4 c_11 dP_start_71 ?_
          refine lv_bipush (v := 32) hx hb dP_start_72 (by decide) ?_
          refine lv_icmp_eq (tgt := 99) hx hb dP_start_74 (by decide) (fun c_12 => ?_) (fun c_12 => ?_)
          · replace h := rz_t c_12 h
            exact tP_start_99 F hC ih a0 r1 x2 x3 _ _ _ _ _ _ h hR (lv_sub hl [0, 1, 2, 3] rfl)
          · replace h := rz_f c_12 h
            refine lv_aload_n hx hb dP_start_77 rfl (lv_at hl 0 rfl) ?_
            refine rg_getP hx hb hown hK hR hk_P 0 (by decide) kf_P_9 rfl c_6 dP_start_78 ?_
            refine lv_aload_n hx hb dP_start_81 rfl (lv_at hl 0 rfl) ?_
            refine rg_getI hx hb hown hK hR hk_P 1 (by decide) kf_P_48 rfl c_6 dP_start_82 ?_
            refine lr_aload_n hx hb dP_start_85 rfl (lv_at hl 1 rfl) ?_
            refine lv_iload_n hx hb dP_start_86 rfl (lv_at hl 3 rfl) ?_
            rw [e_3]
            obtain ⟨c_13, h⟩ := rz_chk h
            refine rg_cald hx hb hK hR c_4 c_13 dP_start_87 ?_
            rw [e_8]
            obtain ⟨c_14, h⟩ := rz_chk h
            obtain ⟨c_15, h⟩ := rz_chk h
            obtain ⟨M_16, q_17, h⟩ := rz_m h
            refine rg_cast hx hb hK hR c_9 c_14 c_15 dP_start_88 (fun H locs hR => ?_)
            rw [← q_17] at hR
            have c_18 : mK M_16 a_2 = 22 := by rw [q_17]; exact c_4
            have c_19 : mK M_16 a0 = 2 := by rw [q_17]; exact c_6
            have c_20 : mK M_16 a_7 = 22 := by rw [q_17]; exact c_9
            refine lv_aload_n hx hb dP_start_89 rfl (lv_at hl 0 rfl) ?_
            refine lv_dup hx hb dP_start_90 rfl ?_
            refine rg_getI hx hb hown hK hR hk_P 1 (by decide) kf_P_48 rfl c_19 dP_start_91 ?_
            refine lv_iconst (v := 1) hx hb dP_start_94 (by decide) ?_
            refine lv_iadd hx hb dP_start_95 ?_
            obtain ⟨M_21, q_22, h⟩ := rz_m h
            refine rg_putI hx hb hown hK hR hk_P 1 (by decide) kf_P_48 rfl rfl (ty := .int) (by decide +kernel) (Or.inl rfl) rfl c_19 dP_start_96 (fun H locs hR => ?_)
            rw [← q_22] at hR
            have c_23 : mK M_21 a_2 = 22 := by rw [q_22]; exact c_18
            have c_24 : mK M_21 a0 = 2 := by rw [q_22]; exact c_19
            have c_25 : mK M_21 a_7 = 22 := by rw [q_22]; exact c_20
            exact tP_start_99 F hC ih a0 r1 x2 x3 _ _ _ _ _ _ h hR (lv_sub hl [0, 1, 2, 3] rfl)
def fP_start_22 (n d : Nat) (C : Cx) : Nat → Nat → Option Nat → Int32 → Int32 → Mem → Rz
  | 0, _, _, _, _, _ => none
  | w + 1, a0, r1, x2, x3, M => if mK M a0 = 2 then (rzD (mP M a0 4) fun a_2 => (if mK M a_2 = 23 then (if (nI (mL M a_2)) ≤ x3 then (fP_start_46 n d C n a0 r1 x2 0 M) else (if inA x3 (mL M a_2) then (if fits .boolean (.int 0) = true then (rzM (setI M a_2 x3.toNatClampNeg 0) fun M_8 => (fP_start_22 n d C w a0 r1 x2 (x3 + 1) M_8)) else none) else none)) else none)) else none
set_option maxRecDepth 100000 in
set_option maxHeartbeats 4000000 in
theorem tP_start_22 {n : Nat} (F : FX p s m meth c G R M0 d "HeadCount$Parser" bP_start 4 none) (hC : CBs l G d C) : ∀ (w : Nat) (a0 : Nat) (r1 : Option Nat) (x2 : Int32) (x3 : Int32) (M : Mem) (H : Heap) (locs : List Loc) (cells slots : Nat) (ls : Array Slot), fP_start_22 n d C w a0 r1 x2 x3 M = some (r, M') → RL G M0 M H locs cells slots → lv_has ls 4 [(0, .ref a0), (1, va_rf r1), (2, .int x2), (3, .int x3)] → W p l e R s m args below meth c H locs cells slots (CQ G below s M0 r M') (F0 m 22 ls []) := by
  obtain ⟨hx, hb, hml, hown, hrt, hlk, hex, hK, hRm⟩ := id F
  intro w
  induction w with
  | zero => intro a0 r1 x2 x3 M H locs cells slots ls h; cases h
  | succ w ih =>
    intro a0 r1 x2 x3 M H locs cells slots ls h hR hl
    rw [fP_start_22] at h
    refine lv_iload_n hx hb dP_start_22 rfl (lv_at hl 3 rfl) ?_
    refine lv_aload_n hx hb dP_start_23 rfl (lv_at hl 0 rfl) ?_
    obtain ⟨c_1, h⟩ := rz_chk h
    refine rg_getP hx hb hown hK hR hk_P 4 (by decide) kf_P_23 rfl c_1 dP_start_24 ?_
    obtain ⟨a_2, e_3, h⟩ := rz_d h
    rw [e_3]
    obtain ⟨c_4, h⟩ := rz_chk h
    refine rg_alen hx hb hK hR 23 c_4 (by decide) (by decide) dP_start_27 ?_
    refine lv_icmp_ge (tgt := 44) hx hb dP_start_28 (by decide) (fun c_5 => ?_) (fun c_5 => ?_)
    · replace h := rz_t c_5 h
      refine lv_iconst (v := 0) hx hb dP_start_44 (by decide) ?_
      refine lv_istore_n (lv' := [(3, .int 0), (0, .ref a0), (1, va_rf r1), (2, .int x2)]) hx hb dP_start_45 rfl hl (by decide) rfl (fun ls hl => ?_)
      exact tP_start_46 F hC n a0 r1 x2 0 _ _ _ _ _ _ h hR (lv_sub hl [1, 2, 3, 0] rfl)
    · replace h := rz_f c_5 h
      refine lv_aload_n hx hb dP_start_31 rfl (lv_at hl 0 rfl) ?_
      refine rg_getP hx hb hown hK hR hk_P 4 (by decide) kf_P_23 rfl c_1 dP_start_32 ?_
      refine lv_iload_n hx hb dP_start_35 rfl (lv_at hl 3 rfl) ?_
      refine lv_iconst (v := 0) hx hb dP_start_36 (by decide) ?_
      rw [e_3]
      obtain ⟨c_6, h⟩ := rz_chk h
      obtain ⟨c_7, h⟩ := rz_chk h
      obtain ⟨M_8, q_9, h⟩ := rz_m h
      refine rg_zast hx hb hK hR c_4 c_6 c_7 dP_start_37 (fun H locs hR => ?_)
      rw [← q_9] at hR
      have c_10 : mK M_8 a0 = 2 := by rw [q_9]; exact c_1
      have c_11 : mK M_8 a_2 = 23 := by rw [q_9]; exact c_4
      refine lv_iinc (k := 3) (v := x3 + 1) (lv' := [(3, .int (x3 + 1)), (0, .ref a0), (1, va_rf r1), (2, .int x2)]) hx hb dP_start_38 hl rfl (by rw [show Int32.ofInt 1 = 1 from by decide]) (by decide) rfl (fun ls hl => ?_)
      refine lv_goto (tgt := 22) hx hb dP_start_41 (by decide) ?_
      exact ih a0 r1 x2 (x3 + 1) _ _ _ _ _ _ h hR (lv_sub hl [1, 2, 3, 0] rfl)
def fP_start_0 (n d : Nat) (C : Cx) (a0 : Nat) (r1 : Option Nat) (x2 : Int32) (M : Mem) : Rz := if mK M a0 = 2 then (rzM (setI M a0 1 0) fun M_2 => (rzM (setI M_2 a0 2 0) fun M_5 => (rzM (setI M_5 a0 3 0) fun M_8 => (rzM (setI M_8 a0 7 0) fun M_11 => (fP_start_22 n d C n a0 r1 x2 0 M_11))))) else none
set_option maxRecDepth 100000 in
set_option maxHeartbeats 4000000 in
theorem tP_start_0 {n : Nat} (F : FX p s m meth c G R M0 d "HeadCount$Parser" bP_start 4 none) (hC : CBs l G d C) : ∀ (a0 : Nat) (r1 : Option Nat) (x2 : Int32) (M : Mem) (H : Heap) (locs : List Loc) (cells slots : Nat) (ls : Array Slot), fP_start_0 n d C a0 r1 x2 M = some (r, M') → RL G M0 M H locs cells slots → lv_has ls 4 [(0, .ref a0), (1, va_rf r1), (2, .int x2)] → W p l e R s m args below meth c H locs cells slots (CQ G below s M0 r M') (F0 m 0 ls []) := by
  obtain ⟨hx, hb, hml, hown, hrt, hlk, hex, hK, hRm⟩ := id F
  intro a0 r1 x2 M H locs cells slots ls h hR hl
  unfold fP_start_0 at h
  refine lv_aload_n hx hb dP_start_0 rfl (lv_at hl 0 rfl) ?_
  refine lv_iconst (v := 0) hx hb dP_start_1 (by decide) ?_
  obtain ⟨c_1, h⟩ := rz_chk h
  obtain ⟨M_2, q_3, h⟩ := rz_m h
  refine rg_putI hx hb hown hK hR hk_P 1 (by decide) kf_P_48 rfl rfl (ty := .int) (by decide +kernel) (Or.inl rfl) rfl c_1 dP_start_2 (fun H locs hR => ?_)
  rw [← q_3] at hR
  have c_4 : mK M_2 a0 = 2 := by rw [q_3]; exact c_1
  refine lv_aload_n hx hb dP_start_5 rfl (lv_at hl 0 rfl) ?_
  refine lv_iconst (v := 0) hx hb dP_start_6 (by decide) ?_
  obtain ⟨M_5, q_6, h⟩ := rz_m h
  refine rg_putI hx hb hown hK hR hk_P 2 (by decide) kf_P_44 rfl rfl (ty := .int) (by decide +kernel) (Or.inl rfl) rfl c_4 dP_start_7 (fun H locs hR => ?_)
  rw [← q_6] at hR
  have c_7 : mK M_5 a0 = 2 := by rw [q_6]; exact c_4
  refine lv_aload_n hx hb dP_start_10 rfl (lv_at hl 0 rfl) ?_
  refine lv_iconst (v := 0) hx hb dP_start_11 (by decide) ?_
  obtain ⟨M_8, q_9, h⟩ := rz_m h
  refine rg_putI hx hb hown hK hR hk_P 3 (by decide) kf_P_55 rfl rfl (ty := .int) (by decide +kernel) (Or.inl rfl) rfl c_7 dP_start_12 (fun H locs hR => ?_)
  rw [← q_9] at hR
  have c_10 : mK M_8 a0 = 2 := by rw [q_9]; exact c_7
  refine lv_aload_n hx hb dP_start_15 rfl (lv_at hl 0 rfl) ?_
  refine lv_iconst (v := 0) hx hb dP_start_16 (by decide) ?_
  obtain ⟨M_11, q_12, h⟩ := rz_m h
  refine rg_putI hx hb hown hK hR hk_P 7 (by decide) kf_P_58 rfl rfl (ty := .int) (by decide +kernel) (Or.inl rfl) rfl c_10 dP_start_17 (fun H locs hR => ?_)
  rw [← q_12] at hR
  have c_13 : mK M_11 a0 = 2 := by rw [q_12]; exact c_10
  refine lv_iconst (v := 0) hx hb dP_start_20 (by decide) ?_
  refine lv_istore_n (lv' := [(3, .int 0), (0, .ref a0), (1, va_rf r1), (2, .int x2)]) hx hb dP_start_21 rfl hl (by decide) rfl (fun ls hl => ?_)
  exact tP_start_22 F hC n a0 r1 x2 0 _ _ _ _ _ _ h hR (lv_sub hl [1, 2, 3, 0] rfl)
set_option maxRecDepth 100000 in
set_option maxHeartbeats 4000000 in
theorem sP_start {l : Launch} {G : Gx} {n d : Nat} {C : Cx} (hC : CBs l G d C) (a0 : Nat) (r1 : Option Nat) (x2 : Int32) {M M' : Mem} {r : Option Value ⊕ Nat} (h : fP_start_0 n d C a0 r1 x2 M = some (r, M')) : CB l G (d + 1) yP_start [.ref a0, va_rf r1, .int x2] M r M' := by
  intro p e R s m below meth c hx hn hm hc hlk hK hR hcap hS hU hfr hlo hrc hrs
  obtain ⟨hb, hml, hrt, hex, hown⟩ := fx_of hn hm hc (hK.w mfP_start.2.2.1 rfl #[])
  have F : FX p s m meth c G R M d "HeadCount$Parser" bP_start 4 none := ⟨hx, hb, hml, hown, hrt, hlk, hex, hK, hfr, hlo, by rw [← hcap]; exact hrc, hrs⟩
  rw [hml]
  have hl := lv_entry ([.ref a0, va_rf r1, .int x2]) (n := 4) (by simp [lg_sl, cat_rf, cat_i, cat_a, cat_l, cat_n])
  rw [lg_entry_eq]
  generalize (lg_sl ([.ref a0, va_rf r1, .int x2]) ++ List.replicate (4 - (lg_sl ([.ref a0, va_rf r1, .int x2])).length) Slot.unset).toArray = ls at hl ⊢
  have hl : lv_has ls 4 [(0, .ref a0), (1, va_rf r1), (2, .int x2)] := by simpa [lv_args, cat_rf, cat_i, cat_a, cat_l, cat_n] using hl
  exact tP_start_0 F hC a0 r1 x2 _ _ _ _ _ _ h (RL.start hR hcap hS hU) (lv_sub hl [0, 1, 2] rfl)
def fP_row_75 (n d : Nat) (C : Cx) (r4 : Option Nat) (M : Mem) : Rz := some (.inl (some (va_rf r4)), M)
set_option maxRecDepth 100000 in
set_option maxHeartbeats 4000000 in
theorem tP_row_75 {n : Nat} (F : FX p s m meth c G R M0 d "HeadCount$Parser" bP_row 7 (some (.object "HeadCount$Node"))) (hC : CBs l G d C) : ∀ (r4 : Option Nat) (M : Mem) (H : Heap) (locs : List Loc) (cells slots : Nat) (ls : Array Slot), fP_row_75 n d C r4 M = some (r, M') → RL G M0 M H locs cells slots → lv_has ls 7 [(4, va_rf r4)] → W p l e R s m args below meth c H locs cells slots (CQ G below s M0 r M') (F0 m 75 ls []) := by
  obtain ⟨hx, hb, hml, hown, hrt, hlk, hex, hK, hRm⟩ := id F
  intro r4 M H locs cells slots ls h hR hl
  unfold fP_row_75 at h
  refine lr_aload hx hb dP_row_75 (lv_at hl 0 rfl) ?_
  cases h
  exact rt_a (r := r4) hx hb hlk hrt (Or.inl ⟨_, rfl⟩) hR dP_row_77
def fP_row_36 (n d : Nat) (C : Cx) : Nat → Nat → Int32 → Int32 → Option Nat → Option Nat → Int32 → Mem → Rz
  | 0, _, _, _, _, _, _, _ => none
  | w + 1, a0, x1, x2, r4, r5, x6, M => if 120 ≤ x6 then (fP_row_75 n d C r4 M) else (if mK M a0 = 2 then (rzC (C 31 [.ref a0, .int x1] M) fun v_3 M_4 => (rzI v_3 fun x_7 => (if x_7 = 0 then (fP_row_75 n d C r4 M_4) else (if mK M_4 a0 = 2 then (rzC (C 14 [.ref a0, .int x1, .int x2] M_4) fun v_10 M_11 => (rzP v_10 fun r_14 => (rzD r5 fun a_15 => (if mK M_11 a_15 = 4 then (rzM (setP M_11 a_15 4 r_14) fun M_18 => (rzD r5 fun a_21 => (if mK M_18 a_21 = 4 then (fP_row_36 n d C w a0 x1 x2 r4 (mP M_18 a_21 4) (x6 + 1) M_18) else none))) else none)))) else none)))) else none)
set_option maxRecDepth 100000 in
set_option maxHeartbeats 4000000 in
theorem tP_row_36 {n : Nat} (F : FX p s m meth c G R M0 d "HeadCount$Parser" bP_row 7 (some (.object "HeadCount$Node"))) (hC : CBs l G d C) : ∀ (w : Nat) (a0 : Nat) (x1 : Int32) (x2 : Int32) (r4 : Option Nat) (r5 : Option Nat) (x6 : Int32) (M : Mem) (H : Heap) (locs : List Loc) (cells slots : Nat) (ls : Array Slot), fP_row_36 n d C w a0 x1 x2 r4 r5 x6 M = some (r, M') → RL G M0 M H locs cells slots → lv_has ls 7 [(0, .ref a0), (1, .int x1), (2, .int x2), (4, va_rf r4), (5, va_rf r5), (6, .int x6)] → W p l e R s m args below meth c H locs cells slots (CQ G below s M0 r M') (F0 m 36 ls []) := by
  obtain ⟨hx, hb, hml, hown, hrt, hlk, hex, hK, hRm⟩ := id F
  intro w
  induction w with
  | zero => intro a0 x1 x2 r4 r5 x6 M H locs cells slots ls h; cases h
  | succ w ih =>
    intro a0 x1 x2 r4 r5 x6 M H locs cells slots ls h hR hl
    rw [fP_row_36] at h
    refine lv_iload hx hb dP_row_36 (lv_at hl 5 rfl) ?_
    refine lv_bipush (v := 120) hx hb dP_row_38 (by decide) ?_
    refine lv_icmp_ge (tgt := 75) hx hb dP_row_40 (by decide) (fun c_1 => ?_) (fun c_1 => ?_)
    · replace h := rz_t c_1 h
      exact tP_row_75 F hC r4 _ _ _ _ _ _ h hR (lv_sub hl [3] rfl)
    · replace h := rz_f c_1 h
      refine lv_aload_n hx hb dP_row_43 rfl (lv_at hl 0 rfl) ?_
      refine lv_iload_n hx hb dP_row_44 rfl (lv_at hl 1 rfl) ?_
      obtain ⟨c_2, h⟩ := rz_chk h
      obtain ⟨q_6, M_4, h_5, h⟩ := rz_c h
      refine rc_V (rest := []) (As := [.int x1]) hx hb (hl.1.trans hml.symm) hown hK hR hRm mfP_take kl_P_76 hk_P rfl rfl c_2 (by simp [cat_rf, cat_i, cat_a, cat_l, cat_n]) (hC 31 _ _ _ _ h_5) dP_row_45 (fun v1 H locs cells slots ev hR => ?_) (fun x1 q1 ce1 H locs cells slots ex hR g1 g2 g3 => ?_)
      · rcases h with ⟨v_3, ev2, h⟩ | ⟨e2, ee2, -⟩
        · cases ev.symm.trans ev2
          replace h := rz_i h
          obtain ⟨x_7, rfl, h⟩ := h
          dsimp only [Option.toList, List.cons_append, List.nil_append]
          refine lv_if_eq (tgt := 75) hx hb dP_row_48 (by decide) (fun c_8 => ?_) (fun c_8 => ?_)
          · replace h := rz_t c_8 h
            exact tP_row_75 F hC r4 _ _ _ _ _ _ h hR (lv_sub hl [3] rfl)
          · replace h := rz_f c_8 h
            refine lr_aload hx hb dP_row_51 (lv_at hl 4 rfl) ?_
            refine lv_aload_n hx hb dP_row_53 rfl (lv_at hl 0 rfl) ?_
            refine lv_iload_n hx hb dP_row_54 rfl (lv_at hl 1 rfl) ?_
            refine lv_iload_n hx hb dP_row_55 rfl (lv_at hl 2 rfl) ?_
            obtain ⟨c_9, h⟩ := rz_chk h
            obtain ⟨q_13, M_11, h_12, h⟩ := rz_c h
            refine rc_V (rest := [va_rf r5]) (As := [.int x1, .int x2]) hx hb (hl.1.trans hml.symm) hown hK hR hRm mfP_item kl_P_61 hk_P rfl rfl c_9 (by simp [cat_rf, cat_i, cat_a, cat_l, cat_n]) (hC 14 _ _ _ _ h_12) dP_row_56 (fun v1 H locs cells slots ev hR => ?_) (fun x1 q1 ce1 H locs cells slots ex hR g1 g2 g3 => ?_)
            · rcases h with ⟨v_10, ev2, h⟩ | ⟨e2, ee2, -⟩
              · cases ev.symm.trans ev2
                replace h := rz_p h
                obtain ⟨r_14, rfl, h⟩ := h
                dsimp only [Option.toList, List.cons_append, List.nil_append]
                obtain ⟨a_15, e_16, h⟩ := rz_d h
                rw [e_16]
                obtain ⟨c_17, h⟩ := rz_chk h
                obtain ⟨M_18, q_19, h⟩ := rz_m h
                refine rg_putP (r := r_14) hx hb hown hK hR hk_N 4 (by decide) kf_P_80 rfl rfl (ty := .object "HeadCount$Node") (by decide +kernel) (Or.inl ⟨_, rfl⟩) c_17 dP_row_59 (fun H locs hR => ?_)
                rw [← q_19] at hR
                have c_20 : mK M_18 a_15 = 4 := by rw [q_19]; exact c_17
                refine lr_aload hx hb dP_row_62 (lv_at hl 4 rfl) ?_
                obtain ⟨a_21, e_22, h⟩ := rz_d h
                rw [e_22]
                obtain ⟨c_23, h⟩ := rz_chk h
                refine rg_getP hx hb hown hK hR hk_N 4 (by decide) kf_P_80 rfl c_23 dP_row_64 ?_
                refine lr_astore (lv' := [(5, va_rf (mP M_18 a_21 4)), (0, .ref a0), (1, .int x1), (2, .int x2), (4, va_rf r4), (6, .int x6)]) hx hb dP_row_67 hl (by decide) (by first | (simp [cat_rf, cat_i, cat_a, cat_l, cat_n]; done) | (simp [cat_rf, cat_i, cat_a, cat_l, cat_n]; decide)) (fun ls hl => ?_)
                refine lv_iinc (k := 5) (v := x6 + 1) (lv' := [(6, .int (x6 + 1)), (5, va_rf (mP M_18 a_21 4)), (0, .ref a0), (1, .int x1), (2, .int x2), (4, va_rf r4)]) hx hb dP_row_69 hl rfl (by rw [show Int32.ofInt 1 = 1 from by decide]) (by decide) (by simp [cat_rf, cat_i, cat_a, cat_l, cat_n]) (fun ls hl => ?_)
                refine lv_goto (tgt := 36) hx hb dP_row_72 (by decide) ?_
                exact ih a0 x1 x2 r4 (mP M_18 a_21 4) (x6 + 1) _ _ _ _ _ _ h hR (lv_sub hl [2, 3, 4, 5, 1, 0] rfl)
              · cases ev.symm.trans ee2
            · rcases h with ⟨v2, ev2, -⟩ | ⟨e2, ee2, h⟩
              · cases ex.symm.trans ev2
              · cases ex.symm.trans ee2
                cases h
                exact rt_x hlk hex hR g1 g2 g3
        · cases ev.symm.trans ee2
      · rcases h with ⟨v2, ev2, -⟩ | ⟨e2, ee2, h⟩
        · cases ex.symm.trans ev2
        · cases ex.symm.trans ee2
          cases h
          exact rt_x hlk hex hR g1 g2 g3
def fP_row_0 (n d : Nat) (C : Cx) (a0 : Nat) (x1 : Int32) (x2 : Int32) (M : Mem) : Rz := if mK M a0 = 2 then (rzC (C 14 [.ref a0, .int x1, .int x2] M) fun v_2 M_3 => (rzP v_2 fun r_6 => (if mK M_3 a0 = 2 then (rzC (C 17 [.ref a0] M_3) fun v_8 M_9 => (rzI v_8 fun x_12 => (if x_12 = x1 then (if mK M_9 a0 = 2 then (rzC (C 20 [.ref a0, .int x1] M_9) fun v_15 M_16 => (rzP v_15 fun r_19 => (rzD r_19 fun a_20 => (if mK M_16 a_20 = 4 then (rzM (setP M_16 a_20 3 r_6) fun M_23 => (fP_row_36 n d C n a0 x1 x2 r_19 r_6 0 M_23)) else none)))) else none) else (some (.inl (some (va_rf r_6)), M_9))))) else none))) else none
set_option maxRecDepth 100000 in
set_option maxHeartbeats 4000000 in
theorem tP_row_0 {n : Nat} (F : FX p s m meth c G R M0 d "HeadCount$Parser" bP_row 7 (some (.object "HeadCount$Node"))) (hC : CBs l G d C) : ∀ (a0 : Nat) (x1 : Int32) (x2 : Int32) (M : Mem) (H : Heap) (locs : List Loc) (cells slots : Nat) (ls : Array Slot), fP_row_0 n d C a0 x1 x2 M = some (r, M') → RL G M0 M H locs cells slots → lv_has ls 7 [(0, .ref a0), (1, .int x1), (2, .int x2)] → W p l e R s m args below meth c H locs cells slots (CQ G below s M0 r M') (F0 m 0 ls []) := by
  obtain ⟨hx, hb, hml, hown, hrt, hlk, hex, hK, hRm⟩ := id F
  intro a0 x1 x2 M H locs cells slots ls h hR hl
  unfold fP_row_0 at h
  refine lv_aload_n hx hb dP_row_0 rfl (lv_at hl 0 rfl) ?_
  refine lv_iload_n hx hb dP_row_1 rfl (lv_at hl 1 rfl) ?_
  refine lv_iload_n hx hb dP_row_2 rfl (lv_at hl 2 rfl) ?_
  obtain ⟨c_1, h⟩ := rz_chk h
  obtain ⟨q_5, M_3, h_4, h⟩ := rz_c h
  refine rc_V (rest := []) (As := [.int x1, .int x2]) hx hb (hl.1.trans hml.symm) hown hK hR hRm mfP_item kl_P_61 hk_P rfl rfl c_1 (by simp [cat_rf, cat_i, cat_a, cat_l, cat_n]) (hC 14 _ _ _ _ h_4) dP_row_3 (fun v1 H locs cells slots ev hR => ?_) (fun x1 q1 ce1 H locs cells slots ex hR g1 g2 g3 => ?_)
  · rcases h with ⟨v_2, ev2, h⟩ | ⟨e2, ee2, -⟩
    · cases ev.symm.trans ev2
      replace h := rz_p h
      obtain ⟨r_6, rfl, h⟩ := h
      dsimp only [Option.toList, List.cons_append, List.nil_append]
      refine lr_astore_n (lv' := [(3, va_rf r_6), (0, .ref a0), (1, .int x1), (2, .int x2)]) hx hb dP_row_6 rfl hl (by decide) rfl (fun ls hl => ?_)
      refine lv_aload_n hx hb dP_row_7 rfl (lv_at hl 1 rfl) ?_
      obtain ⟨c_7, h⟩ := rz_chk h
      obtain ⟨q_11, M_9, h_10, h⟩ := rz_c h
      refine rc_V (rest := []) (As := []) hx hb (hl.1.trans hml.symm) hown hK hR hRm mfP_peek kl_P_64 hk_P rfl rfl c_7 (by simp [cat_rf, cat_i, cat_a, cat_l, cat_n]) (hC 17 _ _ _ _ h_10) dP_row_8 (fun v1 H locs cells slots ev hR => ?_) (fun x1 q1 ce1 H locs cells slots ex hR g1 g2 g3 => ?_)
      · rcases h with ⟨v_8, ev2, h⟩ | ⟨e2, ee2, -⟩
        · cases ev.symm.trans ev2
          replace h := rz_i h
          obtain ⟨x_12, rfl, h⟩ := h
          dsimp only [Option.toList, List.cons_append, List.nil_append]
          refine lv_iload_n hx hb dP_row_11 rfl (lv_at hl 2 rfl) ?_
          refine lv_icmp_eq (tgt := 17) hx hb dP_row_12 (by decide) (fun c_13 => ?_) (fun c_13 => ?_)
          · replace h := rz_t c_13 h
            refine lv_aload_n hx hb dP_row_17 rfl (lv_at hl 1 rfl) ?_
            refine lv_iload_n hx hb dP_row_18 rfl (lv_at hl 2 rfl) ?_
            obtain ⟨c_14, h⟩ := rz_chk h
            obtain ⟨q_18, M_16, h_17, h⟩ := rz_c h
            refine rc_V (rest := []) (As := [.int x1]) hx hb (hl.1.trans hml.symm) hown hK hR hRm mfP_make kl_P_68 hk_P rfl rfl c_14 (by simp [cat_rf, cat_i, cat_a, cat_l, cat_n]) (hC 20 _ _ _ _ h_17) dP_row_19 (fun v1 H locs cells slots ev hR => ?_) (fun x1 q1 ce1 H locs cells slots ex hR g1 g2 g3 => ?_)
            · rcases h with ⟨v_15, ev2, h⟩ | ⟨e2, ee2, -⟩
              · cases ev.symm.trans ev2
                replace h := rz_p h
                obtain ⟨r_19, rfl, h⟩ := h
                dsimp only [Option.toList, List.cons_append, List.nil_append]
                refine lr_astore (lv' := [(4, va_rf r_19), (3, va_rf r_6), (0, .ref a0), (1, .int x1), (2, .int x2)]) hx hb dP_row_22 hl (by decide) (by first | (simp [cat_rf, cat_i, cat_a, cat_l, cat_n]; done) | (simp [cat_rf, cat_i, cat_a, cat_l, cat_n]; decide)) (fun ls hl => ?_)
                refine lr_aload hx hb dP_row_24 (lv_at hl 0 rfl) ?_
                refine lr_aload_n hx hb dP_row_26 rfl (lv_at hl 1 rfl) ?_
                obtain ⟨a_20, e_21, h⟩ := rz_d h
                rw [e_21]
                obtain ⟨c_22, h⟩ := rz_chk h
                obtain ⟨M_23, q_24, h⟩ := rz_m h
                refine rg_putP (r := r_6) hx hb hown hK hR hk_N 3 (by decide) kf_P_72 rfl rfl (ty := .object "HeadCount$Node") (by decide +kernel) (Or.inl ⟨_, rfl⟩) c_22 dP_row_27 (fun H locs hR => ?_)
                rw [← q_24] at hR
                have c_25 : mK M_23 a_20 = 4 := by rw [q_24]; exact c_22
                refine lr_aload_n hx hb dP_row_30 rfl (lv_at hl 1 rfl) ?_
                refine lr_astore (lv' := [(5, va_rf r_6), (4, va_rf r_19), (3, va_rf r_6), (0, .ref a0), (1, .int x1), (2, .int x2)]) hx hb dP_row_31 hl (by decide) (by first | (simp [cat_rf, cat_i, cat_a, cat_l, cat_n]; done) | (simp [cat_rf, cat_i, cat_a, cat_l, cat_n]; decide)) (fun ls hl => ?_)
                refine lv_iconst (v := 0) hx hb dP_row_33 (by decide) ?_
                refine lv_istore (lv' := [(6, .int 0), (5, va_rf r_6), (4, va_rf r_19), (3, va_rf r_6), (0, .ref a0), (1, .int x1), (2, .int x2)]) hx hb dP_row_34 hl (by decide) (by first | (simp [cat_rf, cat_i, cat_a, cat_l, cat_n]; done) | (simp [cat_rf, cat_i, cat_a, cat_l, cat_n]; decide)) (fun ls hl => ?_)
                exact tP_row_36 F hC n a0 x1 x2 r_19 r_6 0 _ _ _ _ _ _ h hR (lv_sub hl [4, 5, 6, 2, 1, 0] rfl)
              · cases ev.symm.trans ee2
            · rcases h with ⟨v2, ev2, -⟩ | ⟨e2, ee2, h⟩
              · cases ex.symm.trans ev2
              · cases ex.symm.trans ee2
                cases h
                exact rt_x hlk hex hR g1 g2 g3
          · replace h := rz_f c_13 h
            refine lr_aload_n hx hb dP_row_15 rfl (lv_at hl 0 rfl) ?_
            cases h
            exact rt_a (r := r_6) hx hb hlk hrt (Or.inl ⟨_, rfl⟩) hR dP_row_16
        · cases ev.symm.trans ee2
      · rcases h with ⟨v2, ev2, -⟩ | ⟨e2, ee2, h⟩
        · cases ex.symm.trans ev2
        · cases ex.symm.trans ee2
          cases h
          exact rt_x hlk hex hR g1 g2 g3
    · cases ev.symm.trans ee2
  · rcases h with ⟨v2, ev2, -⟩ | ⟨e2, ee2, h⟩
    · cases ex.symm.trans ev2
    · cases ex.symm.trans ee2
      cases h
      exact rt_x hlk hex hR g1 g2 g3
set_option maxRecDepth 100000 in
set_option maxHeartbeats 4000000 in
theorem sP_row {l : Launch} {G : Gx} {n d : Nat} {C : Cx} (hC : CBs l G d C) (a0 : Nat) (x1 : Int32) (x2 : Int32) {M M' : Mem} {r : Option Value ⊕ Nat} (h : fP_row_0 n d C a0 x1 x2 M = some (r, M')) : CB l G (d + 1) yP_row [.ref a0, .int x1, .int x2] M r M' := by
  intro p e R s m below meth c hx hn hm hc hlk hK hR hcap hS hU hfr hlo hrc hrs
  obtain ⟨hb, hml, hrt, hex, hown⟩ := fx_of hn hm hc (hK.w mfP_row.2.2.1 rfl #[])
  have F : FX p s m meth c G R M d "HeadCount$Parser" bP_row 7 (some (.object "HeadCount$Node")) := ⟨hx, hb, hml, hown, hrt, hlk, hex, hK, hfr, hlo, by rw [← hcap]; exact hrc, hrs⟩
  rw [hml]
  have hl := lv_entry ([.ref a0, .int x1, .int x2]) (n := 7) (by simp [lg_sl, cat_rf, cat_i, cat_a, cat_l, cat_n])
  rw [lg_entry_eq]
  generalize (lg_sl ([.ref a0, .int x1, .int x2]) ++ List.replicate (7 - (lg_sl ([.ref a0, .int x1, .int x2])).length) Slot.unset).toArray = ls at hl ⊢
  have hl : lv_has ls 7 [(0, .ref a0), (1, .int x1), (2, .int x2)] := by simpa [lv_args, cat_rf, cat_i, cat_a, cat_l, cat_n] using hl
  exact tP_row_0 F hC a0 x1 x2 _ _ _ _ _ _ h (RL.start hR hcap hS hU) (lv_sub hl [0, 1, 2] rfl)
def fP_item_0 (n d : Nat) (C : Cx) (a0 : Nat) (x1 : Int32) (x2 : Int32) (M : Mem) : Rz := if x1 = 38 then (if mK M a0 = 2 then (rzC (C 15 [.ref a0, .int x2] M) fun v_3 M_4 => (rzP v_3 fun r_7 => (some (.inl (some (va_rf r_7)), M_4)))) else none) else (if x1 = 43 then (if mK M a0 = 2 then (rzC (C 13 [.ref a0, .int 42, .int x2] M) fun v_10 M_11 => (rzP v_10 fun r_14 => (some (.inl (some (va_rf r_14)), M_11)))) else none) else (if x1 = 124 then (if mK M a0 = 2 then (rzC (C 13 [.ref a0, .int 38, .int x2] M) fun v_17 M_18 => (rzP v_17 fun r_21 => (some (.inl (some (va_rf r_21)), M_18)))) else none) else (if mK M a0 = 2 then (rzC (C 40 [.ref a0, .int x2] M) fun v_23 M_24 => (rzP v_23 fun r_27 => (some (.inl (some (va_rf r_27)), M_24)))) else none)))
set_option maxRecDepth 100000 in
set_option maxHeartbeats 4000000 in
theorem tP_item_0 {n : Nat} (F : FX p s m meth c G R M0 d "HeadCount$Parser" bP_item 3 (some (.object "HeadCount$Node"))) (hC : CBs l G d C) : ∀ (a0 : Nat) (x1 : Int32) (x2 : Int32) (M : Mem) (H : Heap) (locs : List Loc) (cells slots : Nat) (ls : Array Slot), fP_item_0 n d C a0 x1 x2 M = some (r, M') → RL G M0 M H locs cells slots → lv_has ls 3 [(0, .ref a0), (1, .int x1), (2, .int x2)] → W p l e R s m args below meth c H locs cells slots (CQ G below s M0 r M') (F0 m 0 ls []) := by
  obtain ⟨hx, hb, hml, hown, hrt, hlk, hex, hK, hRm⟩ := id F
  intro a0 x1 x2 M H locs cells slots ls h hR hl
  unfold fP_item_0 at h
  refine lv_iload_n hx hb dP_item_0 rfl (lv_at hl 1 rfl) ?_
  by_cases c_1 : x1 = 38
  · replace h := rz_t c_1 h
    refine lv_lookup (off := 43) (tgt := 44) hx hb dP_item_1 (by decide) (by rw [c_1]; decide) (by decide) ?_
    refine lv_aload_n hx hb dP_item_44 rfl (lv_at hl 0 rfl) ?_
    refine lv_iload_n hx hb dP_item_45 rfl (lv_at hl 2 rfl) ?_
    obtain ⟨c_2, h⟩ := rz_chk h
    obtain ⟨q_6, M_4, h_5, h⟩ := rz_c h
    refine rc_V (rest := []) (As := [.int x2]) hx hb (hl.1.trans hml.symm) hown hK hR hRm mfP_one kl_P_83 hk_P rfl rfl c_2 (by simp [cat_rf, cat_i, cat_a, cat_l, cat_n]) (hC 15 _ _ _ _ h_5) dP_item_46 (fun v1 H locs cells slots ev hR => ?_) (fun x1 q1 ce1 H locs cells slots ex hR g1 g2 g3 => ?_)
    · rcases h with ⟨v_3, ev2, h⟩ | ⟨e2, ee2, -⟩
      · cases ev.symm.trans ev2
        replace h := rz_p h
        obtain ⟨r_7, rfl, h⟩ := h
        dsimp only [Option.toList, List.cons_append, List.nil_append]
        cases h
        exact rt_a (r := r_7) hx hb hlk hrt (Or.inl ⟨_, rfl⟩) hR dP_item_49
      · cases ev.symm.trans ee2
    · rcases h with ⟨v2, ev2, -⟩ | ⟨e2, ee2, h⟩
      · cases ex.symm.trans ev2
      · cases ex.symm.trans ee2
        cases h
        exact rt_x hlk hex hR g1 g2 g3
  · replace h := rz_f c_1 h
    by_cases c_8 : x1 = 43
    · replace h := rz_t c_8 h
      refine lv_lookup (off := 49) (tgt := 50) hx hb dP_item_1 (by decide) (by rw [c_8]; decide) (by decide) ?_
      refine lv_aload_n hx hb dP_item_50 rfl (lv_at hl 0 rfl) ?_
      refine lv_bipush (v := 42) hx hb dP_item_51 (by decide) ?_
      refine lv_iload_n hx hb dP_item_53 rfl (lv_at hl 2 rfl) ?_
      obtain ⟨c_9, h⟩ := rz_chk h
      obtain ⟨q_13, M_11, h_12, h⟩ := rz_c h
      refine rc_V (rest := []) (As := [.int 42, .int x2]) hx hb (hl.1.trans hml.symm) hown hK hR hRm mfP_row kl_P_40 hk_P rfl rfl c_9 (by simp [cat_rf, cat_i, cat_a, cat_l, cat_n]) (hC 13 _ _ _ _ h_12) dP_item_54 (fun v1 H locs cells slots ev hR => ?_) (fun x1 q1 ce1 H locs cells slots ex hR g1 g2 g3 => ?_)
      · rcases h with ⟨v_10, ev2, h⟩ | ⟨e2, ee2, -⟩
        · cases ev.symm.trans ev2
          replace h := rz_p h
          obtain ⟨r_14, rfl, h⟩ := h
          dsimp only [Option.toList, List.cons_append, List.nil_append]
          cases h
          exact rt_a (r := r_14) hx hb hlk hrt (Or.inl ⟨_, rfl⟩) hR dP_item_57
        · cases ev.symm.trans ee2
      · rcases h with ⟨v2, ev2, -⟩ | ⟨e2, ee2, h⟩
        · cases ex.symm.trans ev2
        · cases ex.symm.trans ee2
          cases h
          exact rt_x hlk hex hR g1 g2 g3
    · replace h := rz_f c_8 h
      by_cases c_15 : x1 = 124
      · replace h := rz_t c_15 h
        refine lv_lookup (off := 35) (tgt := 36) hx hb dP_item_1 (by decide) (by rw [c_15]; decide) (by decide) ?_
        refine lv_aload_n hx hb dP_item_36 rfl (lv_at hl 0 rfl) ?_
        refine lv_bipush (v := 38) hx hb dP_item_37 (by decide) ?_
        refine lv_iload_n hx hb dP_item_39 rfl (lv_at hl 2 rfl) ?_
        obtain ⟨c_16, h⟩ := rz_chk h
        obtain ⟨q_20, M_18, h_19, h⟩ := rz_c h
        refine rc_V (rest := []) (As := [.int 38, .int x2]) hx hb (hl.1.trans hml.symm) hown hK hR hRm mfP_row kl_P_40 hk_P rfl rfl c_16 (by simp [cat_rf, cat_i, cat_a, cat_l, cat_n]) (hC 13 _ _ _ _ h_19) dP_item_40 (fun v1 H locs cells slots ev hR => ?_) (fun x1 q1 ce1 H locs cells slots ex hR g1 g2 g3 => ?_)
        · rcases h with ⟨v_17, ev2, h⟩ | ⟨e2, ee2, -⟩
          · cases ev.symm.trans ev2
            replace h := rz_p h
            obtain ⟨r_21, rfl, h⟩ := h
            dsimp only [Option.toList, List.cons_append, List.nil_append]
            cases h
            exact rt_a (r := r_21) hx hb hlk hrt (Or.inl ⟨_, rfl⟩) hR dP_item_43
          · cases ev.symm.trans ee2
        · rcases h with ⟨v2, ev2, -⟩ | ⟨e2, ee2, h⟩
          · cases ex.symm.trans ev2
          · cases ex.symm.trans ee2
            cases h
            exact rt_x hlk hex hR g1 g2 g3
      · replace h := rz_f c_15 h
        refine lv_lookup (off := 57) (tgt := 58) hx hb dP_item_1 (by decide) ((lv_osw c_1 (k := 38) (by decide)).trans ((lv_osw c_8 (k := 43) (by decide)).trans ((lv_osw c_15 (k := 124) (by decide)).trans rfl))) (by decide) ?_
        refine lv_aload_n hx hb dP_item_58 rfl (lv_at hl 0 rfl) ?_
        refine lv_iload_n hx hb dP_item_59 rfl (lv_at hl 2 rfl) ?_
        obtain ⟨c_22, h⟩ := rz_chk h
        obtain ⟨q_26, M_24, h_25, h⟩ := rz_c h
        refine rc_V (rest := []) (As := [.int x2]) hx hb (hl.1.trans hml.symm) hown hK hR hRm mfP_single kl_P_87 hk_P rfl rfl c_22 (by simp [cat_rf, cat_i, cat_a, cat_l, cat_n]) (hC 40 _ _ _ _ h_25) dP_item_60 (fun v1 H locs cells slots ev hR => ?_) (fun x1 q1 ce1 H locs cells slots ex hR g1 g2 g3 => ?_)
        · rcases h with ⟨v_23, ev2, h⟩ | ⟨e2, ee2, -⟩
          · cases ev.symm.trans ev2
            replace h := rz_p h
            obtain ⟨r_27, rfl, h⟩ := h
            dsimp only [Option.toList, List.cons_append, List.nil_append]
            cases h
            exact rt_a (r := r_27) hx hb hlk hrt (Or.inl ⟨_, rfl⟩) hR dP_item_63
          · cases ev.symm.trans ee2
        · rcases h with ⟨v2, ev2, -⟩ | ⟨e2, ee2, h⟩
          · cases ex.symm.trans ev2
          · cases ex.symm.trans ee2
            cases h
            exact rt_x hlk hex hR g1 g2 g3
set_option maxRecDepth 100000 in
set_option maxHeartbeats 4000000 in
theorem sP_item {l : Launch} {G : Gx} {n d : Nat} {C : Cx} (hC : CBs l G d C) (a0 : Nat) (x1 : Int32) (x2 : Int32) {M M' : Mem} {r : Option Value ⊕ Nat} (h : fP_item_0 n d C a0 x1 x2 M = some (r, M')) : CB l G (d + 1) yP_item [.ref a0, .int x1, .int x2] M r M' := by
  intro p e R s m below meth c hx hn hm hc hlk hK hR hcap hS hU hfr hlo hrc hrs
  obtain ⟨hb, hml, hrt, hex, hown⟩ := fx_of hn hm hc (hK.w mfP_item.2.2.1 rfl #[])
  have F : FX p s m meth c G R M d "HeadCount$Parser" bP_item 3 (some (.object "HeadCount$Node")) := ⟨hx, hb, hml, hown, hrt, hlk, hex, hK, hfr, hlo, by rw [← hcap]; exact hrc, hrs⟩
  rw [hml]
  have hl := lv_entry ([.ref a0, .int x1, .int x2]) (n := 3) (by simp [lg_sl, cat_rf, cat_i, cat_a, cat_l, cat_n])
  rw [lg_entry_eq]
  generalize (lg_sl ([.ref a0, .int x1, .int x2]) ++ List.replicate (3 - (lg_sl ([.ref a0, .int x1, .int x2])).length) Slot.unset).toArray = ls at hl ⊢
  have hl : lv_has ls 3 [(0, .ref a0), (1, .int x1), (2, .int x2)] := by simpa [lv_args, cat_rf, cat_i, cat_a, cat_l, cat_n] using hl
  exact tP_item_0 F hC a0 x1 x2 _ _ _ _ _ _ h (RL.start hR hcap hS hU) (lv_sub hl [0, 1, 2] rfl)
def fP_one_74 (n d : Nat) (C : Cx) (a0 : Nat) (x1 : Int32) (M : Mem) : Rz := if mK M a0 = 2 then (rzC (C 23 [.ref a0, .int x1] M) fun v_2 M_3 => (rzP v_2 fun r_6 => (some (.inl (some (va_rf r_6)), M_3)))) else none
set_option maxRecDepth 100000 in
set_option maxHeartbeats 4000000 in
theorem tP_one_74 {n : Nat} (F : FX p s m meth c G R M0 d "HeadCount$Parser" bP_one 2 (some (.object "HeadCount$Node"))) (hC : CBs l G d C) : ∀ (a0 : Nat) (x1 : Int32) (M : Mem) (H : Heap) (locs : List Loc) (cells slots : Nat) (ls : Array Slot), fP_one_74 n d C a0 x1 M = some (r, M') → RL G M0 M H locs cells slots → lv_has ls 2 [(0, .ref a0), (1, .int x1)] → W p l e R s m args below meth c H locs cells slots (CQ G below s M0 r M') (F0 m 74 ls []) := by
  obtain ⟨hx, hb, hml, hown, hrt, hlk, hex, hK, hRm⟩ := id F
  intro a0 x1 M H locs cells slots ls h hR hl
  unfold fP_one_74 at h
  refine lv_aload_n hx hb dP_one_74 rfl (lv_at hl 0 rfl) ?_
  refine lv_iload_n hx hb dP_one_75 rfl (lv_at hl 1 rfl) ?_
  obtain ⟨c_1, h⟩ := rz_chk h
  obtain ⟨q_5, M_3, h_4, h⟩ := rz_c h
  refine rc_V (rest := []) (As := [.int x1]) hx hb (hl.1.trans hml.symm) hown hK hR hRm mfP_quantified kl_P_93 hk_P rfl rfl c_1 (by simp [cat_rf, cat_i, cat_a, cat_l, cat_n]) (hC 23 _ _ _ _ h_4) dP_one_76 (fun v1 H locs cells slots ev hR => ?_) (fun x1 q1 ce1 H locs cells slots ex hR g1 g2 g3 => ?_)
  · rcases h with ⟨v_2, ev2, h⟩ | ⟨e2, ee2, -⟩
    · cases ev.symm.trans ev2
      replace h := rz_p h
      obtain ⟨r_6, rfl, h⟩ := h
      dsimp only [Option.toList, List.cons_append, List.nil_append]
      cases h
      exact rt_a (r := r_6) hx hb hlk hrt (Or.inl ⟨_, rfl⟩) hR dP_one_79
    · cases ev.symm.trans ee2
  · rcases h with ⟨v2, ev2, -⟩ | ⟨e2, ee2, h⟩
    · cases ex.symm.trans ev2
    · cases ex.symm.trans ee2
      cases h
      exact rt_x hlk hex hR g1 g2 g3
def fP_one_112 (n d : Nat) (C : Cx) (rs0 : Option Nat) (M : Mem) : Rz := some (.inl (some (va_rf rs0)), M)
set_option maxRecDepth 100000 in
set_option maxHeartbeats 4000000 in
theorem tP_one_112 {n : Nat} (F : FX p s m meth c G R M0 d "HeadCount$Parser" bP_one 2 (some (.object "HeadCount$Node"))) (hC : CBs l G d C) : ∀ (rs0 : Option Nat) (M : Mem) (H : Heap) (locs : List Loc) (cells slots : Nat) (ls : Array Slot), fP_one_112 n d C rs0 M = some (r, M') → RL G M0 M H locs cells slots → lv_has ls 2 [] → W p l e R s m args below meth c H locs cells slots (CQ G below s M0 r M') (F0 m 112 ls [va_rf rs0]) := by
  obtain ⟨hx, hb, hml, hown, hrt, hlk, hex, hK, hRm⟩ := id F
  intro rs0 M H locs cells slots ls h hR hl
  unfold fP_one_112 at h
  cases h
  exact rt_a (r := rs0) hx hb hlk hrt (Or.inl ⟨_, rfl⟩) hR dP_one_112
def fP_one_11 (n d : Nat) (C : Cx) (a0 : Nat) (x1 : Int32) (xs0 : Int32) (M : Mem) : Rz := rzC (C 16 [.int xs0] M) fun v_1 M_2 => (rzV v_1 (if mK M_2 a0 = 2 then (rzC (C 17 [.ref a0] M_2) fun v_6 M_7 => (rzI v_6 fun x_10 => (if x_10 = 33 then (if mK M_7 a0 = 2 then (rzC (C 18 [.ref a0, .int x1] M_7) fun v_13 M_14 => (rzP v_13 fun r_17 => (some (.inl (some (va_rf r_17)), M_14)))) else none) else (if x_10 = 40 then (if mK M_7 a0 = 2 then (rzC (C 30 [.ref a0, .int x1] M_7) fun v_20 M_21 => (rzP v_20 fun r_24 => (some (.inl (some (va_rf r_24)), M_21)))) else none) else (if x_10 = 65 then (fP_one_74 n d C a0 x1 M_7) else (if x_10 = 69 then (fP_one_74 n d C a0 x1 M_7) else (if x_10 = 91 then (if mK M_7 a0 = 2 then (rzC (C 32 [.ref a0, .int x1] M_7) fun v_29 M_30 => (rzP v_29 fun r_33 => (some (.inl (some (va_rf r_33)), M_30)))) else none) else (if mK M_7 a0 = 2 then (rzC (C 33 [.ref a0] M_7) fun v_35 M_36 => (rzI v_35 fun x_39 => (if x_39 = 0 then (if mK M_36 a0 = 2 then (rzC (C 42 [.ref a0, .int x1] M_36) fun v_42 M_43 => (rzP v_42 fun r_46 => (fP_one_112 n d C r_46 M_43))) else none) else (if mK M_36 a0 = 2 then (rzC (C 36 [.ref a0, .int x1] M_36) fun v_48 M_49 => (rzP v_48 fun r_52 => (fP_one_112 n d C r_52 M_49))) else none)))) else none)))))))) else none))
set_option maxRecDepth 100000 in
set_option maxHeartbeats 4000000 in
theorem tP_one_11 {n : Nat} (F : FX p s m meth c G R M0 d "HeadCount$Parser" bP_one 2 (some (.object "HeadCount$Node"))) (hC : CBs l G d C) : ∀ (a0 : Nat) (x1 : Int32) (xs0 : Int32) (M : Mem) (H : Heap) (locs : List Loc) (cells slots : Nat) (ls : Array Slot), fP_one_11 n d C a0 x1 xs0 M = some (r, M') → RL G M0 M H locs cells slots → lv_has ls 2 [(0, .ref a0), (1, .int x1)] → W p l e R s m args below meth c H locs cells slots (CQ G below s M0 r M') (F0 m 11 ls [.int xs0]) := by
  obtain ⟨hx, hb, hml, hown, hrt, hlk, hex, hK, hRm⟩ := id F
  intro a0 x1 xs0 M H locs cells slots ls h hR hl
  unfold fP_one_11 at h
  obtain ⟨q_4, M_2, h_3, h⟩ := rz_c h
  refine rc_S (rest := []) (As := [.int xs0]) hx hb (hl.1.trans hml.symm) hown hK hR hRm mfP_insist kl_P_51 rfl (by simp [cat_rf, cat_i, cat_a, cat_l, cat_n]) (hC 16 _ _ _ _ h_3) dP_one_11 (fun v1 H locs cells slots ev hR => ?_) (fun x1 q1 ce1 H locs cells slots ex hR g1 g2 g3 => ?_)
  · rcases h with ⟨v_1, ev2, h⟩ | ⟨e2, ee2, -⟩
    · cases ev.symm.trans ev2
      replace h := rz_v h
      obtain ⟨rfl, h⟩ := h
      dsimp only [Option.toList, List.cons_append, List.nil_append]
      refine lv_aload_n hx hb dP_one_14 rfl (lv_at hl 0 rfl) ?_
      obtain ⟨c_5, h⟩ := rz_chk h
      obtain ⟨q_9, M_7, h_8, h⟩ := rz_c h
      refine rc_V (rest := []) (As := []) hx hb (hl.1.trans hml.symm) hown hK hR hRm mfP_peek kl_P_64 hk_P rfl rfl c_5 (by simp [cat_rf, cat_i, cat_a, cat_l, cat_n]) (hC 17 _ _ _ _ h_8) dP_one_15 (fun v1 H locs cells slots ev hR => ?_) (fun x1 q1 ce1 H locs cells slots ex hR g1 g2 g3 => ?_)
      · rcases h with ⟨v_6, ev2, h⟩ | ⟨e2, ee2, -⟩
        · cases ev.symm.trans ev2
          replace h := rz_i h
          obtain ⟨x_10, rfl, h⟩ := h
          dsimp only [Option.toList, List.cons_append, List.nil_append]
          by_cases c_11 : x_10 = 33
          · replace h := rz_t c_11 h
            refine lv_lookup (off := 50) (tgt := 68) hx hb dP_one_18 (by decide) (by rw [c_11]; decide) (by decide) ?_
            refine lv_aload_n hx hb dP_one_68 rfl (lv_at hl 0 rfl) ?_
            refine lv_iload_n hx hb dP_one_69 rfl (lv_at hl 1 rfl) ?_
            obtain ⟨c_12, h⟩ := rz_chk h
            obtain ⟨q_16, M_14, h_15, h⟩ := rz_c h
            refine rc_V (rest := []) (As := [.int x1]) hx hb (hl.1.trans hml.symm) hown hK hR hRm mfP_not kl_P_90 hk_P rfl rfl c_12 (by simp [cat_rf, cat_i, cat_a, cat_l, cat_n]) (hC 18 _ _ _ _ h_15) dP_one_70 (fun v1 H locs cells slots ev hR => ?_) (fun x1 q1 ce1 H locs cells slots ex hR g1 g2 g3 => ?_)
            · rcases h with ⟨v_13, ev2, h⟩ | ⟨e2, ee2, -⟩
              · cases ev.symm.trans ev2
                replace h := rz_p h
                obtain ⟨r_17, rfl, h⟩ := h
                dsimp only [Option.toList, List.cons_append, List.nil_append]
                cases h
                exact rt_a (r := r_17) hx hb hlk hrt (Or.inl ⟨_, rfl⟩) hR dP_one_73
              · cases ev.symm.trans ee2
            · rcases h with ⟨v2, ev2, -⟩ | ⟨e2, ee2, h⟩
              · cases ex.symm.trans ev2
              · cases ex.symm.trans ee2
                cases h
                exact rt_x hlk hex hR g1 g2 g3
          · replace h := rz_f c_11 h
            by_cases c_18 : x_10 = 40
            · replace h := rz_t c_18 h
              refine lv_lookup (off := 62) (tgt := 80) hx hb dP_one_18 (by decide) (by rw [c_18]; decide) (by decide) ?_
              refine lv_aload_n hx hb dP_one_80 rfl (lv_at hl 0 rfl) ?_
              refine lv_iload_n hx hb dP_one_81 rfl (lv_at hl 1 rfl) ?_
              obtain ⟨c_19, h⟩ := rz_chk h
              obtain ⟨q_23, M_21, h_22, h⟩ := rz_c h
              refine rc_V (rest := []) (As := [.int x1]) hx hb (hl.1.trans hml.symm) hown hK hR hRm mfP_bracketed kl_P_96 hk_P rfl rfl c_19 (by simp [cat_rf, cat_i, cat_a, cat_l, cat_n]) (hC 30 _ _ _ _ h_22) dP_one_82 (fun v1 H locs cells slots ev hR => ?_) (fun x1 q1 ce1 H locs cells slots ex hR g1 g2 g3 => ?_)
              · rcases h with ⟨v_20, ev2, h⟩ | ⟨e2, ee2, -⟩
                · cases ev.symm.trans ev2
                  replace h := rz_p h
                  obtain ⟨r_24, rfl, h⟩ := h
                  dsimp only [Option.toList, List.cons_append, List.nil_append]
                  cases h
                  exact rt_a (r := r_24) hx hb hlk hrt (Or.inl ⟨_, rfl⟩) hR dP_one_85
                · cases ev.symm.trans ee2
              · rcases h with ⟨v2, ev2, -⟩ | ⟨e2, ee2, h⟩
                · cases ex.symm.trans ev2
                · cases ex.symm.trans ee2
                  cases h
                  exact rt_x hlk hex hR g1 g2 g3
            · replace h := rz_f c_18 h
              by_cases c_25 : x_10 = 65
              · replace h := rz_t c_25 h
                refine lv_lookup (off := 56) (tgt := 74) hx hb dP_one_18 (by decide) (by rw [c_25]; decide) (by decide) ?_
                exact tP_one_74 F hC a0 x1 _ _ _ _ _ _ h hR (lv_sub hl [0, 1] rfl)
              · replace h := rz_f c_25 h
                by_cases c_26 : x_10 = 69
                · replace h := rz_t c_26 h
                  refine lv_lookup (off := 56) (tgt := 74) hx hb dP_one_18 (by decide) (by rw [c_26]; decide) (by decide) ?_
                  exact tP_one_74 F hC a0 x1 _ _ _ _ _ _ h hR (lv_sub hl [0, 1] rfl)
                · replace h := rz_f c_26 h
                  by_cases c_27 : x_10 = 91
                  · replace h := rz_t c_27 h
                    refine lv_lookup (off := 68) (tgt := 86) hx hb dP_one_18 (by decide) (by rw [c_27]; decide) (by decide) ?_
                    refine lv_aload_n hx hb dP_one_86 rfl (lv_at hl 0 rfl) ?_
                    refine lv_iload_n hx hb dP_one_87 rfl (lv_at hl 1 rfl) ?_
                    obtain ⟨c_28, h⟩ := rz_chk h
                    obtain ⟨q_32, M_30, h_31, h⟩ := rz_c h
                    refine rc_V (rest := []) (As := [.int x1]) hx hb (hl.1.trans hml.symm) hown hK hR hRm mfP_comparisonOfSets kl_P_99 hk_P rfl rfl c_28 (by simp [cat_rf, cat_i, cat_a, cat_l, cat_n]) (hC 32 _ _ _ _ h_31) dP_one_88 (fun v1 H locs cells slots ev hR => ?_) (fun x1 q1 ce1 H locs cells slots ex hR g1 g2 g3 => ?_)
                    · rcases h with ⟨v_29, ev2, h⟩ | ⟨e2, ee2, -⟩
                      · cases ev.symm.trans ev2
                        replace h := rz_p h
                        obtain ⟨r_33, rfl, h⟩ := h
                        dsimp only [Option.toList, List.cons_append, List.nil_append]
                        cases h
                        exact rt_a (r := r_33) hx hb hlk hrt (Or.inl ⟨_, rfl⟩) hR dP_one_91
                      · cases ev.symm.trans ee2
                    · rcases h with ⟨v2, ev2, -⟩ | ⟨e2, ee2, h⟩
                      · cases ex.symm.trans ev2
                      · cases ex.symm.trans ee2
                        cases h
                        exact rt_x hlk hex hR g1 g2 g3
                  · replace h := rz_f c_27 h
                    refine lv_lookup (off := 74) (tgt := 92) hx hb dP_one_18 (by decide) ((lv_osw c_11 (k := 33) (by decide)).trans ((lv_osw c_18 (k := 40) (by decide)).trans ((lv_osw c_25 (k := 65) (by decide)).trans ((lv_osw c_26 (k := 69) (by decide)).trans ((lv_osw c_27 (k := 91) (by decide)).trans rfl))))) (by decide) ?_
                    refine lv_aload_n hx hb dP_one_92 rfl (lv_at hl 0 rfl) ?_
                    obtain ⟨c_34, h⟩ := rz_chk h
                    obtain ⟨q_38, M_36, h_37, h⟩ := rz_c h
                    refine rc_V (rest := []) (As := []) hx hb (hl.1.trans hml.symm) hown hK hR hRm mfP_startsWithDivisor kl_P_102 hk_P rfl rfl c_34 (by simp [cat_rf, cat_i, cat_a, cat_l, cat_n]) (hC 33 _ _ _ _ h_37) dP_one_93 (fun v1 H locs cells slots ev hR => ?_) (fun x1 q1 ce1 H locs cells slots ex hR g1 g2 g3 => ?_)
                    · rcases h with ⟨v_35, ev2, h⟩ | ⟨e2, ee2, -⟩
                      · cases ev.symm.trans ev2
                        replace h := rz_i h
                        obtain ⟨x_39, rfl, h⟩ := h
                        dsimp only [Option.toList, List.cons_append, List.nil_append]
                        refine lv_if_eq (tgt := 107) hx hb dP_one_96 (by decide) (fun c_40 => ?_) (fun c_40 => ?_)
                        · replace h := rz_t c_40 h
                          refine lv_aload_n hx hb dP_one_107 rfl (lv_at hl 0 rfl) ?_
                          refine lv_iload_n hx hb dP_one_108 rfl (lv_at hl 1 rfl) ?_
                          obtain ⟨c_41, h⟩ := rz_chk h
                          obtain ⟨q_45, M_43, h_44, h⟩ := rz_c h
                          refine rc_V (rest := []) (As := [.int x1]) hx hb (hl.1.trans hml.symm) hown hK hR hRm mfP_comparisonOfSums kl_P_109 hk_P rfl rfl c_41 (by simp [cat_rf, cat_i, cat_a, cat_l, cat_n]) (hC 42 _ _ _ _ h_44) dP_one_109 (fun v1 H locs cells slots ev hR => ?_) (fun x1 q1 ce1 H locs cells slots ex hR g1 g2 g3 => ?_)
                          · rcases h with ⟨v_42, ev2, h⟩ | ⟨e2, ee2, -⟩
                            · cases ev.symm.trans ev2
                              replace h := rz_p h
                              obtain ⟨r_46, rfl, h⟩ := h
                              dsimp only [Option.toList, List.cons_append, List.nil_append]
                              exact tP_one_112 F hC r_46 _ _ _ _ _ _ h hR (lv_sub hl [] rfl)
                            · cases ev.symm.trans ee2
                          · rcases h with ⟨v2, ev2, -⟩ | ⟨e2, ee2, h⟩
                            · cases ex.symm.trans ev2
                            · cases ex.symm.trans ee2
                              cases h
                              exact rt_x hlk hex hR g1 g2 g3
                        · replace h := rz_f c_40 h
                          refine lv_aload_n hx hb dP_one_99 rfl (lv_at hl 0 rfl) ?_
                          refine lv_iload_n hx hb dP_one_100 rfl (lv_at hl 1 rfl) ?_
                          obtain ⟨c_47, h⟩ := rz_chk h
                          obtain ⟨q_51, M_49, h_50, h⟩ := rz_c h
                          refine rc_V (rest := []) (As := [.int x1]) hx hb (hl.1.trans hml.symm) hown hK hR hRm mfP_divided kl_P_106 hk_P rfl rfl c_47 (by simp [cat_rf, cat_i, cat_a, cat_l, cat_n]) (hC 36 _ _ _ _ h_50) dP_one_101 (fun v1 H locs cells slots ev hR => ?_) (fun x1 q1 ce1 H locs cells slots ex hR g1 g2 g3 => ?_)
                          · rcases h with ⟨v_48, ev2, h⟩ | ⟨e2, ee2, -⟩
                            · cases ev.symm.trans ev2
                              replace h := rz_p h
                              obtain ⟨r_52, rfl, h⟩ := h
                              dsimp only [Option.toList, List.cons_append, List.nil_append]
                              refine lv_goto (tgt := 112) hx hb dP_one_104 (by decide) ?_
                              exact tP_one_112 F hC r_52 _ _ _ _ _ _ h hR (lv_sub hl [] rfl)
                            · cases ev.symm.trans ee2
                          · rcases h with ⟨v2, ev2, -⟩ | ⟨e2, ee2, h⟩
                            · cases ex.symm.trans ev2
                            · cases ex.symm.trans ee2
                              cases h
                              exact rt_x hlk hex hR g1 g2 g3
                      · cases ev.symm.trans ee2
                    · rcases h with ⟨v2, ev2, -⟩ | ⟨e2, ee2, h⟩
                      · cases ex.symm.trans ev2
                      · cases ex.symm.trans ee2
                        cases h
                        exact rt_x hlk hex hR g1 g2 g3
        · cases ev.symm.trans ee2
      · rcases h with ⟨v2, ev2, -⟩ | ⟨e2, ee2, h⟩
        · cases ex.symm.trans ev2
        · cases ex.symm.trans ee2
          cases h
          exact rt_x hlk hex hR g1 g2 g3
    · cases ev.symm.trans ee2
  · rcases h with ⟨v2, ev2, -⟩ | ⟨e2, ee2, h⟩
    · cases ex.symm.trans ev2
    · cases ex.symm.trans ee2
      cases h
      exact rt_x hlk hex hR g1 g2 g3
def fP_one_0 (n d : Nat) (C : Cx) (a0 : Nat) (x1 : Int32) (M : Mem) : Rz := if 12 < x1 then (fP_one_11 n d C a0 x1 0 M) else (fP_one_11 n d C a0 x1 1 M)
set_option maxRecDepth 100000 in
set_option maxHeartbeats 4000000 in
theorem tP_one_0 {n : Nat} (F : FX p s m meth c G R M0 d "HeadCount$Parser" bP_one 2 (some (.object "HeadCount$Node"))) (hC : CBs l G d C) : ∀ (a0 : Nat) (x1 : Int32) (M : Mem) (H : Heap) (locs : List Loc) (cells slots : Nat) (ls : Array Slot), fP_one_0 n d C a0 x1 M = some (r, M') → RL G M0 M H locs cells slots → lv_has ls 2 [(0, .ref a0), (1, .int x1)] → W p l e R s m args below meth c H locs cells slots (CQ G below s M0 r M') (F0 m 0 ls []) := by
  obtain ⟨hx, hb, hml, hown, hrt, hlk, hex, hK, hRm⟩ := id F
  intro a0 x1 M H locs cells slots ls h hR hl
  unfold fP_one_0 at h
  refine lv_iload_n hx hb dP_one_0 rfl (lv_at hl 1 rfl) ?_
  refine lv_bipush (v := 12) hx hb dP_one_1 (by decide) ?_
  refine lv_icmp_gt (tgt := 10) hx hb dP_one_3 (by decide) (fun c_1 => ?_) (fun c_1 => ?_)
  · replace h := rz_t c_1 h
    refine lv_iconst (v := 0) hx hb dP_one_10 (by decide) ?_
    exact tP_one_11 F hC a0 x1 0 _ _ _ _ _ _ h hR (lv_sub hl [0, 1] rfl)
  · replace h := rz_f c_1 h
    refine lv_iconst (v := 1) hx hb dP_one_6 (by decide) ?_
    refine lv_goto (tgt := 11) hx hb dP_one_7 (by decide) ?_
    exact tP_one_11 F hC a0 x1 1 _ _ _ _ _ _ h hR (lv_sub hl [0, 1] rfl)
set_option maxRecDepth 100000 in
set_option maxHeartbeats 4000000 in
theorem sP_one {l : Launch} {G : Gx} {n d : Nat} {C : Cx} (hC : CBs l G d C) (a0 : Nat) (x1 : Int32) {M M' : Mem} {r : Option Value ⊕ Nat} (h : fP_one_0 n d C a0 x1 M = some (r, M')) : CB l G (d + 1) yP_one [.ref a0, .int x1] M r M' := by
  intro p e R s m below meth c hx hn hm hc hlk hK hR hcap hS hU hfr hlo hrc hrs
  obtain ⟨hb, hml, hrt, hex, hown⟩ := fx_of hn hm hc (hK.w mfP_one.2.2.1 rfl #[])
  have F : FX p s m meth c G R M d "HeadCount$Parser" bP_one 2 (some (.object "HeadCount$Node")) := ⟨hx, hb, hml, hown, hrt, hlk, hex, hK, hfr, hlo, by rw [← hcap]; exact hrc, hrs⟩
  rw [hml]
  have hl := lv_entry ([.ref a0, .int x1]) (n := 2) (by simp [lg_sl, cat_rf, cat_i, cat_a, cat_l, cat_n])
  rw [lg_entry_eq]
  generalize (lg_sl ([.ref a0, .int x1]) ++ List.replicate (2 - (lg_sl ([.ref a0, .int x1])).length) Slot.unset).toArray = ls at hl ⊢
  have hl : lv_has ls 2 [(0, .ref a0), (1, .int x1)] := by simpa [lv_args, cat_rf, cat_i, cat_a, cat_l, cat_n] using hl
  exact tP_one_0 F hC a0 x1 _ _ _ _ _ _ h (RL.start hR hcap hS hU) (lv_sub hl [0, 1] rfl)
def fP_peek_36 (n d : Nat) (C : Cx) (xs0 : Int32) (M : Mem) : Rz := if fits .char (.int xs0) = true then (some (.inl (some (.int xs0)), M)) else none
set_option maxRecDepth 100000 in
set_option maxHeartbeats 4000000 in
theorem tP_peek_36 {n : Nat} (F : FX p s m meth c G R M0 d "HeadCount$Parser" bP_peek 1 (some .char)) (hC : CBs l G d C) : ∀ (xs0 : Int32) (M : Mem) (H : Heap) (locs : List Loc) (cells slots : Nat) (ls : Array Slot), fP_peek_36 n d C xs0 M = some (r, M') → RL G M0 M H locs cells slots → lv_has ls 1 [] → W p l e R s m args below meth c H locs cells slots (CQ G below s M0 r M') (F0 m 36 ls [.int xs0]) := by
  obtain ⟨hx, hb, hml, hown, hrt, hlk, hex, hK, hRm⟩ := id F
  intro xs0 M H locs cells slots ls h hR hl
  unfold fP_peek_36 at h
  obtain ⟨c_1, h⟩ := rz_chk h
  cases h
  exact rt_i hx hb hlk hrt (Or.inr (Or.inl rfl)) c_1 hR dP_peek_36
def fP_peek_35 (n d : Nat) (C : Cx) (M : Mem) : Rz := fP_peek_36 n d C 0 M
set_option maxRecDepth 100000 in
set_option maxHeartbeats 4000000 in
theorem tP_peek_35 {n : Nat} (F : FX p s m meth c G R M0 d "HeadCount$Parser" bP_peek 1 (some .char)) (hC : CBs l G d C) : ∀ (M : Mem) (H : Heap) (locs : List Loc) (cells slots : Nat) (ls : Array Slot), fP_peek_35 n d C M = some (r, M') → RL G M0 M H locs cells slots → lv_has ls 1 [] → W p l e R s m args below meth c H locs cells slots (CQ G below s M0 r M') (F0 m 35 ls []) := by
  obtain ⟨hx, hb, hml, hown, hrt, hlk, hex, hK, hRm⟩ := id F
  intro M H locs cells slots ls h hR hl
  unfold fP_peek_35 at h
  refine lv_iconst (v := 0) hx hb dP_peek_35 (by decide) ?_
  exact tP_peek_36 F hC 0 _ _ _ _ _ _ h hR (lv_sub hl [] rfl)
def fP_peek_0 (n d : Nat) (C : Cx) (a0 : Nat) (M : Mem) : Rz := if mK M a0 = 2 then (if (mI M a0 1) ≤ (mI M a0 2) then (fP_peek_35 n d C M) else (rzD (mP M a0 0) fun a_3 => (if mK M a_3 = 22 then (if (nI (mL M a_3)) ≤ (mI M a0 2) then (fP_peek_35 n d C M) else (if inA (mI M a0 2) (mL M a_3) then (fP_peek_36 n d C (mI M a_3 (mI M a0 2).toNatClampNeg) M) else none)) else none))) else none
set_option maxRecDepth 100000 in
set_option maxHeartbeats 4000000 in
theorem tP_peek_0 {n : Nat} (F : FX p s m meth c G R M0 d "HeadCount$Parser" bP_peek 1 (some .char)) (hC : CBs l G d C) : ∀ (a0 : Nat) (M : Mem) (H : Heap) (locs : List Loc) (cells slots : Nat) (ls : Array Slot), fP_peek_0 n d C a0 M = some (r, M') → RL G M0 M H locs cells slots → lv_has ls 1 [(0, .ref a0)] → W p l e R s m args below meth c H locs cells slots (CQ G below s M0 r M') (F0 m 0 ls []) := by
  obtain ⟨hx, hb, hml, hown, hrt, hlk, hex, hK, hRm⟩ := id F
  intro a0 M H locs cells slots ls h hR hl
  unfold fP_peek_0 at h
  refine lv_aload_n hx hb dP_peek_0 rfl (lv_at hl 0 rfl) ?_
  obtain ⟨c_1, h⟩ := rz_chk h
  refine rg_getI hx hb hown hK hR hk_P 2 (by decide) kf_P_44 rfl c_1 dP_peek_1 ?_
  refine lv_aload_n hx hb dP_peek_4 rfl (lv_at hl 0 rfl) ?_
  refine rg_getI hx hb hown hK hR hk_P 1 (by decide) kf_P_48 rfl c_1 dP_peek_5 ?_
  refine lv_icmp_ge (tgt := 35) hx hb dP_peek_8 (by decide) (fun c_2 => ?_) (fun c_2 => ?_)
  · replace h := rz_t c_2 h
    exact tP_peek_35 F hC _ _ _ _ _ _ h hR (lv_sub hl [] rfl)
  · replace h := rz_f c_2 h
    refine lv_aload_n hx hb dP_peek_11 rfl (lv_at hl 0 rfl) ?_
    refine rg_getI hx hb hown hK hR hk_P 2 (by decide) kf_P_44 rfl c_1 dP_peek_12 ?_
    refine lv_aload_n hx hb dP_peek_15 rfl (lv_at hl 0 rfl) ?_
    refine rg_getP hx hb hown hK hR hk_P 0 (by decide) kf_P_9 rfl c_1 dP_peek_16 ?_
    obtain ⟨a_3, e_4, h⟩ := rz_d h
    rw [e_4]
    obtain ⟨c_5, h⟩ := rz_chk h
    refine rg_alen hx hb hK hR 22 c_5 (by decide) (by decide) dP_peek_19 ?_
    refine lv_icmp_ge (tgt := 35) hx hb dP_peek_20 (by decide) (fun c_6 => ?_) (fun c_6 => ?_)
    · replace h := rz_t c_6 h
      exact tP_peek_35 F hC _ _ _ _ _ _ h hR (lv_sub hl [] rfl)
    · replace h := rz_f c_6 h
      refine lv_aload_n hx hb dP_peek_23 rfl (lv_at hl 0 rfl) ?_
      refine rg_getP hx hb hown hK hR hk_P 0 (by decide) kf_P_9 rfl c_1 dP_peek_24 ?_
      refine lv_aload_n hx hb dP_peek_27 rfl (lv_at hl 0 rfl) ?_
      refine rg_getI hx hb hown hK hR hk_P 2 (by decide) kf_P_44 rfl c_1 dP_peek_28 ?_
      rw [e_4]
      obtain ⟨c_7, h⟩ := rz_chk h
      refine rg_cald hx hb hK hR c_5 c_7 dP_peek_31 ?_
      refine lv_goto (tgt := 36) hx hb dP_peek_32 (by decide) ?_
      exact tP_peek_36 F hC (mI M a_3 (mI M a0 2).toNatClampNeg) _ _ _ _ _ _ h hR (lv_sub hl [] rfl)
set_option maxRecDepth 100000 in
set_option maxHeartbeats 4000000 in
theorem sP_peek {l : Launch} {G : Gx} {n d : Nat} {C : Cx} (hC : CBs l G d C) (a0 : Nat) {M M' : Mem} {r : Option Value ⊕ Nat} (h : fP_peek_0 n d C a0 M = some (r, M')) : CB l G (d + 1) yP_peek [.ref a0] M r M' := by
  intro p e R s m below meth c hx hn hm hc hlk hK hR hcap hS hU hfr hlo hrc hrs
  obtain ⟨hb, hml, hrt, hex, hown⟩ := fx_of hn hm hc (hK.w mfP_peek.2.2.1 rfl #[])
  have F : FX p s m meth c G R M d "HeadCount$Parser" bP_peek 1 (some .char) := ⟨hx, hb, hml, hown, hrt, hlk, hex, hK, hfr, hlo, by rw [← hcap]; exact hrc, hrs⟩
  rw [hml]
  have hl := lv_entry ([.ref a0]) (n := 1) (by simp [lg_sl, cat_rf, cat_i, cat_a, cat_l, cat_n])
  rw [lg_entry_eq]
  generalize (lg_sl ([.ref a0]) ++ List.replicate (1 - (lg_sl ([.ref a0])).length) Slot.unset).toArray = ls at hl ⊢
  have hl : lv_has ls 1 [(0, .ref a0)] := by simpa [lv_args, cat_rf, cat_i, cat_a, cat_l, cat_n] using hl
  exact tP_peek_0 F hC a0 _ _ _ _ _ _ h (RL.start hR hcap hS hU) (lv_sub hl [0] rfl)
def fP_not_0 (n d : Nat) (C : Cx) (a0 : Nat) (x1 : Int32) (M : Mem) : Rz := if mK M a0 = 2 then (rzC (C 19 [.ref a0] M) fun v_2 M_3 => (rzI v_2 fun x_6 => (if mK M_3 a0 = 2 then (rzC (C 20 [.ref a0, .int x_6] M_3) fun v_8 M_9 => (rzP v_8 fun r_12 => (if mK M_9 a0 = 2 then (rzC (C 15 [.ref a0, .int (x1 + 1)] M_9) fun v_14 M_15 => (rzP v_14 fun r_18 => (rzD r_12 fun a_19 => (if mK M_15 a_19 = 4 then (rzM (setP M_15 a_19 3 r_18) fun M_22 => (some (.inl (some (va_rf r_12)), M_22))) else none)))) else none))) else none))) else none
set_option maxRecDepth 100000 in
set_option maxHeartbeats 4000000 in
theorem tP_not_0 {n : Nat} (F : FX p s m meth c G R M0 d "HeadCount$Parser" bP_not 3 (some (.object "HeadCount$Node"))) (hC : CBs l G d C) : ∀ (a0 : Nat) (x1 : Int32) (M : Mem) (H : Heap) (locs : List Loc) (cells slots : Nat) (ls : Array Slot), fP_not_0 n d C a0 x1 M = some (r, M') → RL G M0 M H locs cells slots → lv_has ls 3 [(0, .ref a0), (1, .int x1)] → W p l e R s m args below meth c H locs cells slots (CQ G below s M0 r M') (F0 m 0 ls []) := by
  obtain ⟨hx, hb, hml, hown, hrt, hlk, hex, hK, hRm⟩ := id F
  intro a0 x1 M H locs cells slots ls h hR hl
  unfold fP_not_0 at h
  refine lv_aload_n hx hb dP_not_0 rfl (lv_at hl 0 rfl) ?_
  refine lv_aload_n hx hb dP_not_1 rfl (lv_at hl 0 rfl) ?_
  obtain ⟨c_1, h⟩ := rz_chk h
  obtain ⟨q_5, M_3, h_4, h⟩ := rz_c h
  refine rc_V (rest := [.ref a0]) (As := []) hx hb (hl.1.trans hml.symm) hown hK hR hRm mfP_next kl_P_112 hk_P rfl rfl c_1 (by simp [cat_rf, cat_i, cat_a, cat_l, cat_n]) (hC 19 _ _ _ _ h_4) dP_not_2 (fun v1 H locs cells slots ev hR => ?_) (fun x1 q1 ce1 H locs cells slots ex hR g1 g2 g3 => ?_)
  · rcases h with ⟨v_2, ev2, h⟩ | ⟨e2, ee2, -⟩
    · cases ev.symm.trans ev2
      replace h := rz_i h
      obtain ⟨x_6, rfl, h⟩ := h
      dsimp only [Option.toList, List.cons_append, List.nil_append]
      obtain ⟨c_7, h⟩ := rz_chk h
      obtain ⟨q_11, M_9, h_10, h⟩ := rz_c h
      refine rc_V (rest := []) (As := [.int x_6]) hx hb (hl.1.trans hml.symm) hown hK hR hRm mfP_make kl_P_68 hk_P rfl rfl c_7 (by simp [cat_rf, cat_i, cat_a, cat_l, cat_n]) (hC 20 _ _ _ _ h_10) dP_not_5 (fun v1 H locs cells slots ev hR => ?_) (fun x1 q1 ce1 H locs cells slots ex hR g1 g2 g3 => ?_)
      · rcases h with ⟨v_8, ev2, h⟩ | ⟨e2, ee2, -⟩
        · cases ev.symm.trans ev2
          replace h := rz_p h
          obtain ⟨r_12, rfl, h⟩ := h
          dsimp only [Option.toList, List.cons_append, List.nil_append]
          refine lr_astore_n (lv' := [(2, va_rf r_12), (0, .ref a0), (1, .int x1)]) hx hb dP_not_8 rfl hl (by decide) rfl (fun ls hl => ?_)
          refine lr_aload_n hx hb dP_not_9 rfl (lv_at hl 0 rfl) ?_
          refine lv_aload_n hx hb dP_not_10 rfl (lv_at hl 1 rfl) ?_
          refine lv_iload_n hx hb dP_not_11 rfl (lv_at hl 2 rfl) ?_
          refine lv_iconst (v := 1) hx hb dP_not_12 (by decide) ?_
          refine lv_iadd hx hb dP_not_13 ?_
          obtain ⟨c_13, h⟩ := rz_chk h
          obtain ⟨q_17, M_15, h_16, h⟩ := rz_c h
          refine rc_V (rest := [va_rf r_12]) (As := [.int (x1 + 1)]) hx hb (hl.1.trans hml.symm) hown hK hR hRm mfP_one kl_P_83 hk_P rfl rfl c_13 (by simp [cat_rf, cat_i, cat_a, cat_l, cat_n]) (hC 15 _ _ _ _ h_16) dP_not_14 (fun v1 H locs cells slots ev hR => ?_) (fun x1 q1 ce1 H locs cells slots ex hR g1 g2 g3 => ?_)
          · rcases h with ⟨v_14, ev2, h⟩ | ⟨e2, ee2, -⟩
            · cases ev.symm.trans ev2
              replace h := rz_p h
              obtain ⟨r_18, rfl, h⟩ := h
              dsimp only [Option.toList, List.cons_append, List.nil_append]
              obtain ⟨a_19, e_20, h⟩ := rz_d h
              rw [e_20]
              obtain ⟨c_21, h⟩ := rz_chk h
              obtain ⟨M_22, q_23, h⟩ := rz_m h
              refine rg_putP (r := r_18) hx hb hown hK hR hk_N 3 (by decide) kf_P_72 rfl rfl (ty := .object "HeadCount$Node") (by decide +kernel) (Or.inl ⟨_, rfl⟩) c_21 dP_not_17 (fun H locs hR => ?_)
              rw [← q_23] at hR
              have c_24 : mK M_22 a_19 = 4 := by rw [q_23]; exact c_21
              refine lr_aload_n hx hb dP_not_20 rfl (lv_at hl 0 rfl) ?_
              cases h
              exact rt_a (r := r_12) hx hb hlk hrt (Or.inl ⟨_, rfl⟩) hR dP_not_21
            · cases ev.symm.trans ee2
          · rcases h with ⟨v2, ev2, -⟩ | ⟨e2, ee2, h⟩
            · cases ex.symm.trans ev2
            · cases ex.symm.trans ee2
              cases h
              exact rt_x hlk hex hR g1 g2 g3
        · cases ev.symm.trans ee2
      · rcases h with ⟨v2, ev2, -⟩ | ⟨e2, ee2, h⟩
        · cases ex.symm.trans ev2
        · cases ex.symm.trans ee2
          cases h
          exact rt_x hlk hex hR g1 g2 g3
    · cases ev.symm.trans ee2
  · rcases h with ⟨v2, ev2, -⟩ | ⟨e2, ee2, h⟩
    · cases ex.symm.trans ev2
    · cases ex.symm.trans ee2
      cases h
      exact rt_x hlk hex hR g1 g2 g3
set_option maxRecDepth 100000 in
set_option maxHeartbeats 4000000 in
theorem sP_not {l : Launch} {G : Gx} {n d : Nat} {C : Cx} (hC : CBs l G d C) (a0 : Nat) (x1 : Int32) {M M' : Mem} {r : Option Value ⊕ Nat} (h : fP_not_0 n d C a0 x1 M = some (r, M')) : CB l G (d + 1) yP_not [.ref a0, .int x1] M r M' := by
  intro p e R s m below meth c hx hn hm hc hlk hK hR hcap hS hU hfr hlo hrc hrs
  obtain ⟨hb, hml, hrt, hex, hown⟩ := fx_of hn hm hc (hK.w mfP_not.2.2.1 rfl #[])
  have F : FX p s m meth c G R M d "HeadCount$Parser" bP_not 3 (some (.object "HeadCount$Node")) := ⟨hx, hb, hml, hown, hrt, hlk, hex, hK, hfr, hlo, by rw [← hcap]; exact hrc, hrs⟩
  rw [hml]
  have hl := lv_entry ([.ref a0, .int x1]) (n := 3) (by simp [lg_sl, cat_rf, cat_i, cat_a, cat_l, cat_n])
  rw [lg_entry_eq]
  generalize (lg_sl ([.ref a0, .int x1]) ++ List.replicate (3 - (lg_sl ([.ref a0, .int x1])).length) Slot.unset).toArray = ls at hl ⊢
  have hl : lv_has ls 3 [(0, .ref a0), (1, .int x1)] := by simpa [lv_args, cat_rf, cat_i, cat_a, cat_l, cat_n] using hl
  exact tP_not_0 F hC a0 x1 _ _ _ _ _ _ h (RL.start hR hcap hS hU) (lv_sub hl [0, 1] rfl)
def fP_next_26 (n d : Nat) (C : Cx) (x1 : Int32) (M : Mem) : Rz := if fits .char (.int x1) = true then (some (.inl (some (.int x1)), M)) else none
set_option maxRecDepth 100000 in
set_option maxHeartbeats 4000000 in
theorem tP_next_26 {n : Nat} (F : FX p s m meth c G R M0 d "HeadCount$Parser" bP_next 2 (some .char)) (hC : CBs l G d C) : ∀ (x1 : Int32) (M : Mem) (H : Heap) (locs : List Loc) (cells slots : Nat) (ls : Array Slot), fP_next_26 n d C x1 M = some (r, M') → RL G M0 M H locs cells slots → lv_has ls 2 [(1, .int x1)] → W p l e R s m args below meth c H locs cells slots (CQ G below s M0 r M') (F0 m 26 ls []) := by
  obtain ⟨hx, hb, hml, hown, hrt, hlk, hex, hK, hRm⟩ := id F
  intro x1 M H locs cells slots ls h hR hl
  unfold fP_next_26 at h
  refine lv_iload_n hx hb dP_next_26 rfl (lv_at hl 0 rfl) ?_
  obtain ⟨c_1, h⟩ := rz_chk h
  cases h
  exact rt_i hx hb hlk hrt (Or.inr (Or.inl rfl)) c_1 hR dP_next_27
def fP_next_0 (n d : Nat) (C : Cx) (a0 : Nat) (M : Mem) : Rz := if mK M a0 = 2 then (rzC (C 17 [.ref a0] M) fun v_2 M_3 => (rzI v_2 fun x_6 => (if mK M_3 a0 = 2 then (if (mI M_3 a0 1) ≤ (mI M_3 a0 2) then (fP_next_26 n d C x_6 M_3) else (rzM (setI M_3 a0 2 ((mI M_3 a0 2) + 1)) fun M_9 => (fP_next_26 n d C x_6 M_9))) else none))) else none
set_option maxRecDepth 100000 in
set_option maxHeartbeats 4000000 in
theorem tP_next_0 {n : Nat} (F : FX p s m meth c G R M0 d "HeadCount$Parser" bP_next 2 (some .char)) (hC : CBs l G d C) : ∀ (a0 : Nat) (M : Mem) (H : Heap) (locs : List Loc) (cells slots : Nat) (ls : Array Slot), fP_next_0 n d C a0 M = some (r, M') → RL G M0 M H locs cells slots → lv_has ls 2 [(0, .ref a0)] → W p l e R s m args below meth c H locs cells slots (CQ G below s M0 r M') (F0 m 0 ls []) := by
  obtain ⟨hx, hb, hml, hown, hrt, hlk, hex, hK, hRm⟩ := id F
  intro a0 M H locs cells slots ls h hR hl
  unfold fP_next_0 at h
  refine lv_aload_n hx hb dP_next_0 rfl (lv_at hl 0 rfl) ?_
  obtain ⟨c_1, h⟩ := rz_chk h
  obtain ⟨q_5, M_3, h_4, h⟩ := rz_c h
  refine rc_V (rest := []) (As := []) hx hb (hl.1.trans hml.symm) hown hK hR hRm mfP_peek kl_P_64 hk_P rfl rfl c_1 (by simp [cat_rf, cat_i, cat_a, cat_l, cat_n]) (hC 17 _ _ _ _ h_4) dP_next_1 (fun v1 H locs cells slots ev hR => ?_) (fun x1 q1 ce1 H locs cells slots ex hR g1 g2 g3 => ?_)
  · rcases h with ⟨v_2, ev2, h⟩ | ⟨e2, ee2, -⟩
    · cases ev.symm.trans ev2
      replace h := rz_i h
      obtain ⟨x_6, rfl, h⟩ := h
      dsimp only [Option.toList, List.cons_append, List.nil_append]
      refine lv_istore_n (lv' := [(1, .int x_6), (0, .ref a0)]) hx hb dP_next_4 rfl hl (by decide) rfl (fun ls hl => ?_)
      refine lv_aload_n hx hb dP_next_5 rfl (lv_at hl 1 rfl) ?_
      obtain ⟨c_7, h⟩ := rz_chk h
      refine rg_getI hx hb hown hK hR hk_P 2 (by decide) kf_P_44 rfl c_7 dP_next_6 ?_
      refine lv_aload_n hx hb dP_next_9 rfl (lv_at hl 1 rfl) ?_
      refine rg_getI hx hb hown hK hR hk_P 1 (by decide) kf_P_48 rfl c_7 dP_next_10 ?_
      refine lv_icmp_ge (tgt := 26) hx hb dP_next_13 (by decide) (fun c_8 => ?_) (fun c_8 => ?_)
      · replace h := rz_t c_8 h
        exact tP_next_26 F hC x_6 _ _ _ _ _ _ h hR (lv_sub hl [0] rfl)
      · replace h := rz_f c_8 h
        refine lv_aload_n hx hb dP_next_16 rfl (lv_at hl 1 rfl) ?_
        refine lv_dup hx hb dP_next_17 rfl ?_
        refine rg_getI hx hb hown hK hR hk_P 2 (by decide) kf_P_44 rfl c_7 dP_next_18 ?_
        refine lv_iconst (v := 1) hx hb dP_next_21 (by decide) ?_
        refine lv_iadd hx hb dP_next_22 ?_
        obtain ⟨M_9, q_10, h⟩ := rz_m h
        refine rg_putI hx hb hown hK hR hk_P 2 (by decide) kf_P_44 rfl rfl (ty := .int) (by decide +kernel) (Or.inl rfl) rfl c_7 dP_next_23 (fun H locs hR => ?_)
        rw [← q_10] at hR
        have c_11 : mK M_9 a0 = 2 := by rw [q_10]; exact c_7
        exact tP_next_26 F hC x_6 _ _ _ _ _ _ h hR (lv_sub hl [0] rfl)
    · cases ev.symm.trans ee2
  · rcases h with ⟨v2, ev2, -⟩ | ⟨e2, ee2, h⟩
    · cases ex.symm.trans ev2
    · cases ex.symm.trans ee2
      cases h
      exact rt_x hlk hex hR g1 g2 g3
set_option maxRecDepth 100000 in
set_option maxHeartbeats 4000000 in
theorem sP_next {l : Launch} {G : Gx} {n d : Nat} {C : Cx} (hC : CBs l G d C) (a0 : Nat) {M M' : Mem} {r : Option Value ⊕ Nat} (h : fP_next_0 n d C a0 M = some (r, M')) : CB l G (d + 1) yP_next [.ref a0] M r M' := by
  intro p e R s m below meth c hx hn hm hc hlk hK hR hcap hS hU hfr hlo hrc hrs
  obtain ⟨hb, hml, hrt, hex, hown⟩ := fx_of hn hm hc (hK.w mfP_next.2.2.1 rfl #[])
  have F : FX p s m meth c G R M d "HeadCount$Parser" bP_next 2 (some .char) := ⟨hx, hb, hml, hown, hrt, hlk, hex, hK, hfr, hlo, by rw [← hcap]; exact hrc, hrs⟩
  rw [hml]
  have hl := lv_entry ([.ref a0]) (n := 2) (by simp [lg_sl, cat_rf, cat_i, cat_a, cat_l, cat_n])
  rw [lg_entry_eq]
  generalize (lg_sl ([.ref a0]) ++ List.replicate (2 - (lg_sl ([.ref a0])).length) Slot.unset).toArray = ls at hl ⊢
  have hl : lv_has ls 2 [(0, .ref a0)] := by simpa [lv_args, cat_rf, cat_i, cat_a, cat_l, cat_n] using hl
  exact tP_next_0 F hC a0 _ _ _ _ _ _ h (RL.start hR hcap hS hU) (lv_sub hl [0] rfl)
def fP_make_48 (n d : Nat) (C : Cx) (a0 : Nat) (x1 : Int32) (M : Mem) : Rz := if mK M a0 = 2 then (rzD (mP M a0 5) fun a_2 => (if mK M a_2 = 25 then (if inA (mI M a0 7) (mL M a_2) then (rzM (setI M a0 7 ((mI M a0 7) + 1)) fun M_6 => (rzD (mP M a_2 (mI M a0 7).toNatClampNeg) fun a_10 => (if mK M_6 a_10 = 4 then (rzC (C 22 [.ref a_10, .int x1] M_6) fun v_13 M_14 => (rzV v_13 (some (.inl (some (va_rf (mP M a_2 (mI M a0 7).toNatClampNeg))), M_14)))) else none))) else none) else none)) else none
set_option maxRecDepth 100000 in
set_option maxHeartbeats 4000000 in
theorem tP_make_48 {n : Nat} (F : FX p s m meth c G R M0 d "HeadCount$Parser" bP_make 3 (some (.object "HeadCount$Node"))) (hC : CBs l G d C) : ∀ (a0 : Nat) (x1 : Int32) (M : Mem) (H : Heap) (locs : List Loc) (cells slots : Nat) (ls : Array Slot), fP_make_48 n d C a0 x1 M = some (r, M') → RL G M0 M H locs cells slots → lv_has ls 3 [(0, .ref a0), (1, .int x1)] → W p l e R s m args below meth c H locs cells slots (CQ G below s M0 r M') (F0 m 48 ls []) := by
  obtain ⟨hx, hb, hml, hown, hrt, hlk, hex, hK, hRm⟩ := id F
  intro a0 x1 M H locs cells slots ls h hR hl
  unfold fP_make_48 at h
  refine lv_aload_n hx hb dP_make_48 rfl (lv_at hl 0 rfl) ?_
  obtain ⟨c_1, h⟩ := rz_chk h
  refine rg_getP hx hb hown hK hR hk_P 5 (by decide) kf_P_29 rfl c_1 dP_make_49 ?_
  refine lv_aload_n hx hb dP_make_52 rfl (lv_at hl 0 rfl) ?_
  refine rg_getI hx hb hown hK hR hk_P 7 (by decide) kf_P_58 rfl c_1 dP_make_53 ?_
  obtain ⟨a_2, e_3, h⟩ := rz_d h
  rw [e_3]
  obtain ⟨c_4, h⟩ := rz_chk h
  obtain ⟨c_5, h⟩ := rz_chk h
  refine rg_aald hx hb hK hR c_4 c_5 dP_make_56 ?_
  refine lr_astore_n (lv' := [(2, va_rf (mP M a_2 (mI M a0 7).toNatClampNeg)), (0, .ref a0), (1, .int x1)]) hx hb dP_make_57 rfl hl (by decide) rfl (fun ls hl => ?_)
  refine lv_aload_n hx hb dP_make_58 rfl (lv_at hl 1 rfl) ?_
  refine lv_dup hx hb dP_make_59 rfl ?_
  refine rg_getI hx hb hown hK hR hk_P 7 (by decide) kf_P_58 rfl c_1 dP_make_60 ?_
  refine lv_iconst (v := 1) hx hb dP_make_63 (by decide) ?_
  refine lv_iadd hx hb dP_make_64 ?_
  obtain ⟨M_6, q_7, h⟩ := rz_m h
  refine rg_putI hx hb hown hK hR hk_P 7 (by decide) kf_P_58 rfl rfl (ty := .int) (by decide +kernel) (Or.inl rfl) rfl c_1 dP_make_65 (fun H locs hR => ?_)
  rw [← q_7] at hR
  have c_8 : mK M_6 a0 = 2 := by rw [q_7]; exact c_1
  have c_9 : mK M_6 a_2 = 25 := by rw [q_7]; exact c_4
  refine lr_aload_n hx hb dP_make_68 rfl (lv_at hl 0 rfl) ?_
  refine lv_iload_n hx hb dP_make_69 rfl (lv_at hl 2 rfl) ?_
  obtain ⟨a_10, e_11, h⟩ := rz_d h
  rw [e_11]
  obtain ⟨c_12, h⟩ := rz_chk h
  obtain ⟨q_16, M_14, h_15, h⟩ := rz_c h
  refine rc_V (rest := []) (As := [.int x1]) hx hb (hl.1.trans hml.symm) hown hK hR hRm mfN_reset kl_P_148 hk_N rfl rfl c_12 (by simp [cat_rf, cat_i, cat_a, cat_l, cat_n]) (hC 22 _ _ _ _ h_15) dP_make_70 (fun v1 H locs cells slots ev hR => ?_) (fun x1 q1 ce1 H locs cells slots ex hR g1 g2 g3 => ?_)
  · rcases h with ⟨v_13, ev2, h⟩ | ⟨e2, ee2, -⟩
    · cases ev.symm.trans ev2
      replace h := rz_v h
      obtain ⟨rfl, h⟩ := h
      dsimp only [Option.toList, List.cons_append, List.nil_append]
      refine lr_aload_n hx hb dP_make_73 rfl (lv_at hl 0 rfl) ?_
      cases h
      exact rt_a (r := mP M a_2 (mI M a0 7).toNatClampNeg) hx hb hlk hrt (Or.inl ⟨_, rfl⟩) hR dP_make_74
    · cases ev.symm.trans ee2
  · rcases h with ⟨v2, ev2, -⟩ | ⟨e2, ee2, h⟩
    · cases ex.symm.trans ev2
    · cases ex.symm.trans ee2
      cases h
      exact rt_x hlk hex hR g1 g2 g3
def fP_make_17 (n d : Nat) (C : Cx) (a0 : Nat) (x1 : Int32) (xs0 : Int32) (M : Mem) : Rz := rzC (C 16 [.int xs0] M) fun v_1 M_2 => (rzV v_1 (if mK M_2 a0 = 2 then (rzD (mP M_2 a0 5) fun a_6 => (if mK M_2 a_6 = 25 then (if inA (mI M_2 a0 7) (mL M_2 a_6) then (rzN (mP M_2 a_6 (mI M_2 a0 7).toNatClampNeg) (if mS M_2 + 1 ≤ mC M_2 0 then (if mU M_2 + 5 ≤ SLm then (rzM (newC M_2 4 0 5) fun M_16 => (rzC (C 21 [.ref (mS M_2)] M_16) fun v_21 M_22 => (rzV v_21 (rzD (mP M_2 a0 5) fun a_25 => (if mK M_22 a_25 = 25 then (if mK M_22 (mS M_2) = 4 then (if inA (mI M_2 a0 7) (mL M_22 a_25) then (rzM (setP M_22 a_25 (mI M_2 a0 7).toNatClampNeg (some (mS M_2))) fun M_30 => (fP_make_48 n d C a0 x1 M_30)) else none) else none) else none))))) else none) else none) fun a_10 => (fP_make_48 n d C a0 x1 M_2)) else none) else none)) else none))
set_option maxRecDepth 100000 in
set_option maxHeartbeats 4000000 in
theorem tP_make_17 {n : Nat} (F : FX p s m meth c G R M0 d "HeadCount$Parser" bP_make 3 (some (.object "HeadCount$Node"))) (hC : CBs l G d C) : ∀ (a0 : Nat) (x1 : Int32) (xs0 : Int32) (M : Mem) (H : Heap) (locs : List Loc) (cells slots : Nat) (ls : Array Slot), fP_make_17 n d C a0 x1 xs0 M = some (r, M') → RL G M0 M H locs cells slots → lv_has ls 3 [(0, .ref a0), (1, .int x1)] → W p l e R s m args below meth c H locs cells slots (CQ G below s M0 r M') (F0 m 17 ls [.int xs0]) := by
  obtain ⟨hx, hb, hml, hown, hrt, hlk, hex, hK, hRm⟩ := id F
  intro a0 x1 xs0 M H locs cells slots ls h hR hl
  unfold fP_make_17 at h
  obtain ⟨q_4, M_2, h_3, h⟩ := rz_c h
  refine rc_S (rest := []) (As := [.int xs0]) hx hb (hl.1.trans hml.symm) hown hK hR hRm mfP_insist kl_P_51 rfl (by simp [cat_rf, cat_i, cat_a, cat_l, cat_n]) (hC 16 _ _ _ _ h_3) dP_make_17 (fun v1 H locs cells slots ev hR => ?_) (fun x1 q1 ce1 H locs cells slots ex hR g1 g2 g3 => ?_)
  · rcases h with ⟨v_1, ev2, h⟩ | ⟨e2, ee2, -⟩
    · cases ev.symm.trans ev2
      replace h := rz_v h
      obtain ⟨rfl, h⟩ := h
      dsimp only [Option.toList, List.cons_append, List.nil_append]
      refine lv_aload_n hx hb dP_make_20 rfl (lv_at hl 0 rfl) ?_
      obtain ⟨c_5, h⟩ := rz_chk h
      refine rg_getP hx hb hown hK hR hk_P 5 (by decide) kf_P_29 rfl c_5 dP_make_21 ?_
      refine lv_aload_n hx hb dP_make_24 rfl (lv_at hl 0 rfl) ?_
      refine rg_getI hx hb hown hK hR hk_P 7 (by decide) kf_P_58 rfl c_5 dP_make_25 ?_
      obtain ⟨a_6, e_7, h⟩ := rz_d h
      rw [e_7]
      obtain ⟨c_8, h⟩ := rz_chk h
      obtain ⟨c_9, h⟩ := rz_chk h
      refine rg_aald hx hb hK hR c_8 c_9 dP_make_28 ?_
      refine lr_ifnonnull (tgt := 48) hx hb dP_make_29 (by decide) (fun a_10 e_11 => ?_) (fun e_11 => ?_)
      · replace h := rz_n2 e_11 h
        exact tP_make_48 F hC a0 x1 _ _ _ _ _ _ h hR (lv_sub hl [0, 1] rfl)
      · replace h := rz_n1 e_11 h
        refine lv_aload_n hx hb dP_make_32 rfl (lv_at hl 0 rfl) ?_
        refine rg_getP hx hb hown hK hR hk_P 5 (by decide) kf_P_29 rfl c_5 dP_make_33 ?_
        refine lv_aload_n hx hb dP_make_36 rfl (lv_at hl 0 rfl) ?_
        refine rg_getI hx hb hown hK hR hk_P 7 (by decide) kf_P_58 rfl c_5 dP_make_37 ?_
        obtain ⟨c_12, h⟩ := rz_chk h
        obtain ⟨c_13, h⟩ := rz_chk h
        obtain ⟨M_16, q_17, h⟩ := rz_m h
        have hR0 := hR
        refine rg_new hx hb hown hK hR hRm hk_N kc_P_27 kn_N ki_N c_12 c_13 dP_make_40 (fun H hR => ?_)
        rw [← q_17] at hR
        have c_18 : mK M_16 a0 = 2 := by rw [q_17]; exact kn_keep hR0 c_5 (by decide)
        have c_19 : mK M_16 a_6 = 25 := by rw [q_17]; exact kn_keep hR0 c_8 (by decide)
        have c_20 : mK M_16 (mS M_2) = 4 := by rw [q_17, mK_newC, va_up_self]
        refine lv_dup hx hb dP_make_43 rfl ?_
        obtain ⟨q_24, M_22, h_23, h⟩ := rz_c h
        refine rc_IN (rest := [.ref (mS M_2), .int (mI M_2 a0 7), va_rf (mP M_2 a0 5)]) (As := []) hx hb (hl.1.trans hml.symm) hown hK hR hRm mfN_init hK.2.2.2.2.2.2.2.2.2.1 rfl (by simp [cat_rf, cat_i, cat_a, cat_l, cat_n]) (hC 21 _ _ _ _ h_23) dP_make_44 (fun v1 H locs cells slots ev hR => ?_) (fun x1 q1 ce1 H locs cells slots ex hR g1 g2 g3 => ?_)
        · rcases h with ⟨v_21, ev2, h⟩ | ⟨e2, ee2, -⟩
          · cases ev.symm.trans ev2
            replace h := rz_v h
            obtain ⟨rfl, h⟩ := h
            dsimp only [Option.toList, List.cons_append, List.nil_append]
            obtain ⟨a_25, e_26, h⟩ := rz_d h
            rw [e_26]
            obtain ⟨c_27, h⟩ := rz_chk h
            obtain ⟨c_28, h⟩ := rz_chk h
            obtain ⟨c_29, h⟩ := rz_chk h
            obtain ⟨M_30, q_31, h⟩ := rz_m h
            refine rg_aast hx hb hK hR c_27 c_29 c_28 dP_make_47 (fun H locs hR => ?_)
            rw [← q_31] at hR
            have c_32 : mK M_30 a_25 = 25 := by rw [q_31]; exact c_27
            have c_33 : mK M_30 (mS M_2) = 4 := by rw [q_31]; exact c_28
            exact tP_make_48 F hC a0 x1 _ _ _ _ _ _ h hR (lv_sub hl [0, 1] rfl)
          · cases ev.symm.trans ee2
        · rcases h with ⟨v2, ev2, -⟩ | ⟨e2, ee2, h⟩
          · cases ex.symm.trans ev2
          · cases ex.symm.trans ee2
            cases h
            exact rt_x hlk hex hR g1 g2 g3
    · cases ev.symm.trans ee2
  · rcases h with ⟨v2, ev2, -⟩ | ⟨e2, ee2, h⟩
    · cases ex.symm.trans ev2
    · cases ex.symm.trans ee2
      cases h
      exact rt_x hlk hex hR g1 g2 g3
def fP_make_0 (n d : Nat) (C : Cx) (a0 : Nat) (x1 : Int32) (M : Mem) : Rz := if mK M a0 = 2 then (rzD (mP M a0 5) fun a_2 => (if mK M a_2 = 25 then (if (nI (mL M a_2)) ≤ (mI M a0 7) then (fP_make_17 n d C a0 x1 0 M) else (fP_make_17 n d C a0 x1 1 M)) else none)) else none
set_option maxRecDepth 100000 in
set_option maxHeartbeats 4000000 in
theorem tP_make_0 {n : Nat} (F : FX p s m meth c G R M0 d "HeadCount$Parser" bP_make 3 (some (.object "HeadCount$Node"))) (hC : CBs l G d C) : ∀ (a0 : Nat) (x1 : Int32) (M : Mem) (H : Heap) (locs : List Loc) (cells slots : Nat) (ls : Array Slot), fP_make_0 n d C a0 x1 M = some (r, M') → RL G M0 M H locs cells slots → lv_has ls 3 [(0, .ref a0), (1, .int x1)] → W p l e R s m args below meth c H locs cells slots (CQ G below s M0 r M') (F0 m 0 ls []) := by
  obtain ⟨hx, hb, hml, hown, hrt, hlk, hex, hK, hRm⟩ := id F
  intro a0 x1 M H locs cells slots ls h hR hl
  unfold fP_make_0 at h
  refine lv_aload_n hx hb dP_make_0 rfl (lv_at hl 0 rfl) ?_
  obtain ⟨c_1, h⟩ := rz_chk h
  refine rg_getI hx hb hown hK hR hk_P 7 (by decide) kf_P_58 rfl c_1 dP_make_1 ?_
  refine lv_aload_n hx hb dP_make_4 rfl (lv_at hl 0 rfl) ?_
  refine rg_getP hx hb hown hK hR hk_P 5 (by decide) kf_P_29 rfl c_1 dP_make_5 ?_
  obtain ⟨a_2, e_3, h⟩ := rz_d h
  rw [e_3]
  obtain ⟨c_4, h⟩ := rz_chk h
  refine rg_alen hx hb hK hR 25 c_4 (by decide) (by decide) dP_make_8 ?_
  refine lv_icmp_ge (tgt := 16) hx hb dP_make_9 (by decide) (fun c_5 => ?_) (fun c_5 => ?_)
  · replace h := rz_t c_5 h
    refine lv_iconst (v := 0) hx hb dP_make_16 (by decide) ?_
    exact tP_make_17 F hC a0 x1 0 _ _ _ _ _ _ h hR (lv_sub hl [0, 1] rfl)
  · replace h := rz_f c_5 h
    refine lv_iconst (v := 1) hx hb dP_make_12 (by decide) ?_
    refine lv_goto (tgt := 17) hx hb dP_make_13 (by decide) ?_
    exact tP_make_17 F hC a0 x1 1 _ _ _ _ _ _ h hR (lv_sub hl [0, 1] rfl)
set_option maxRecDepth 100000 in
set_option maxHeartbeats 4000000 in
theorem sP_make {l : Launch} {G : Gx} {n d : Nat} {C : Cx} (hC : CBs l G d C) (a0 : Nat) (x1 : Int32) {M M' : Mem} {r : Option Value ⊕ Nat} (h : fP_make_0 n d C a0 x1 M = some (r, M')) : CB l G (d + 1) yP_make [.ref a0, .int x1] M r M' := by
  intro p e R s m below meth c hx hn hm hc hlk hK hR hcap hS hU hfr hlo hrc hrs
  obtain ⟨hb, hml, hrt, hex, hown⟩ := fx_of hn hm hc (hK.w mfP_make.2.2.1 rfl #[])
  have F : FX p s m meth c G R M d "HeadCount$Parser" bP_make 3 (some (.object "HeadCount$Node")) := ⟨hx, hb, hml, hown, hrt, hlk, hex, hK, hfr, hlo, by rw [← hcap]; exact hrc, hrs⟩
  rw [hml]
  have hl := lv_entry ([.ref a0, .int x1]) (n := 3) (by simp [lg_sl, cat_rf, cat_i, cat_a, cat_l, cat_n])
  rw [lg_entry_eq]
  generalize (lg_sl ([.ref a0, .int x1]) ++ List.replicate (3 - (lg_sl ([.ref a0, .int x1])).length) Slot.unset).toArray = ls at hl ⊢
  have hl : lv_has ls 3 [(0, .ref a0), (1, .int x1)] := by simpa [lv_args, cat_rf, cat_i, cat_a, cat_l, cat_n] using hl
  exact tP_make_0 F hC a0 x1 _ _ _ _ _ _ h (RL.start hR hcap hS hU) (lv_sub hl [0, 1] rfl)
def fP_quantified_63 (n d : Nat) (C : Cx) (a0 : Nat) (x1 : Int32) (r2 : Option Nat) (x3 : Int32) (xs0 : Int32) (M : Mem) : Rz := rzC (C 16 [.int xs0] M) fun v_1 M_2 => (rzV v_1 (rzD r2 fun a_5 => (if mK M_2 a_5 = 4 then (rzM (setI M_2 a_5 2 x3) fun M_8 => (if mK M_8 a0 = 2 then (rzD (mP M_8 a0 4) fun a_12 => (if mK M_8 a_12 = 23 then (if inA x3 (mL M_8 a_12) then (if inA x3 (mL M_8 a_12) then (if fits .boolean (.int 1) = true then (rzM (setI M_8 a_12 x3.toNatClampNeg 1) fun M_18 => (rzC (C 15 [.ref a0, .int (x1 + 1)] M_18) fun v_23 M_24 => (rzP v_23 fun r_27 => (rzD r2 fun a_28 => (if mK M_24 a_28 = 4 then (rzM (setP M_24 a_28 3 r_27) fun M_31 => (if mK M_31 a0 = 2 then (rzD (mP M_31 a0 4) fun a_35 => (if mK M_31 a_35 = 23 then (if inA x3 (mL M_31 a_35) then (if fits .boolean (.int (mI M_8 a_12 x3.toNatClampNeg)) = true then (rzM (setI M_31 a_35 x3.toNatClampNeg (mI M_8 a_12 x3.toNatClampNeg)) fun M_40 => (some (.inl (some (va_rf r2)), M_40))) else none) else none) else none)) else none)) else none))))) else none) else none) else none) else none)) else none)) else none)))
set_option maxRecDepth 100000 in
set_option maxHeartbeats 4000000 in
theorem tP_quantified_63 {n : Nat} (F : FX p s m meth c G R M0 d "HeadCount$Parser" bP_quantified 5 (some (.object "HeadCount$Node"))) (hC : CBs l G d C) : ∀ (a0 : Nat) (x1 : Int32) (r2 : Option Nat) (x3 : Int32) (xs0 : Int32) (M : Mem) (H : Heap) (locs : List Loc) (cells slots : Nat) (ls : Array Slot), fP_quantified_63 n d C a0 x1 r2 x3 xs0 M = some (r, M') → RL G M0 M H locs cells slots → lv_has ls 5 [(0, .ref a0), (1, .int x1), (2, va_rf r2), (3, .int x3)] → W p l e R s m args below meth c H locs cells slots (CQ G below s M0 r M') (F0 m 63 ls [.int xs0]) := by
  obtain ⟨hx, hb, hml, hown, hrt, hlk, hex, hK, hRm⟩ := id F
  intro a0 x1 r2 x3 xs0 M H locs cells slots ls h hR hl
  unfold fP_quantified_63 at h
  obtain ⟨q_4, M_2, h_3, h⟩ := rz_c h
  refine rc_S (rest := []) (As := [.int xs0]) hx hb (hl.1.trans hml.symm) hown hK hR hRm mfP_insist kl_P_51 rfl (by simp [cat_rf, cat_i, cat_a, cat_l, cat_n]) (hC 16 _ _ _ _ h_3) dP_quantified_63 (fun v1 H locs cells slots ev hR => ?_) (fun x1 q1 ce1 H locs cells slots ex hR g1 g2 g3 => ?_)
  · rcases h with ⟨v_1, ev2, h⟩ | ⟨e2, ee2, -⟩
    · cases ev.symm.trans ev2
      replace h := rz_v h
      obtain ⟨rfl, h⟩ := h
      dsimp only [Option.toList, List.cons_append, List.nil_append]
      refine lr_aload_n hx hb dP_quantified_66 rfl (lv_at hl 2 rfl) ?_
      refine lv_iload_n hx hb dP_quantified_67 rfl (lv_at hl 3 rfl) ?_
      obtain ⟨a_5, e_6, h⟩ := rz_d h
      rw [e_6]
      obtain ⟨c_7, h⟩ := rz_chk h
      obtain ⟨M_8, q_9, h⟩ := rz_m h
      refine rg_putI hx hb hown hK hR hk_N 2 (by decide) kf_P_118 rfl rfl (ty := .int) (by decide +kernel) (Or.inl rfl) rfl c_7 dP_quantified_68 (fun H locs hR => ?_)
      rw [← q_9] at hR
      have c_10 : mK M_8 a_5 = 4 := by rw [q_9]; exact c_7
      refine lv_aload_n hx hb dP_quantified_71 rfl (lv_at hl 0 rfl) ?_
      obtain ⟨c_11, h⟩ := rz_chk h
      refine rg_getP hx hb hown hK hR hk_P 4 (by decide) kf_P_23 rfl c_11 dP_quantified_72 ?_
      refine lv_iload_n hx hb dP_quantified_75 rfl (lv_at hl 3 rfl) ?_
      obtain ⟨a_12, e_13, h⟩ := rz_d h
      rw [e_13]
      obtain ⟨c_14, h⟩ := rz_chk h
      obtain ⟨c_15, h⟩ := rz_chk h
      refine rg_zald hx hb hK hR c_14 c_15 dP_quantified_76 ?_
      refine lv_istore (lv' := [(4, .int (mI M_8 a_12 x3.toNatClampNeg)), (0, .ref a0), (1, .int x1), (2, va_rf r2), (3, .int x3)]) hx hb dP_quantified_77 hl (by decide) rfl (fun ls hl => ?_)
      refine lv_aload_n hx hb dP_quantified_79 rfl (lv_at hl 1 rfl) ?_
      refine rg_getP hx hb hown hK hR hk_P 4 (by decide) kf_P_23 rfl c_11 dP_quantified_80 ?_
      refine lv_iload_n hx hb dP_quantified_83 rfl (lv_at hl 4 rfl) ?_
      refine lv_iconst (v := 1) hx hb dP_quantified_84 (by decide) ?_
      rw [e_13]
      obtain ⟨c_16, h⟩ := rz_chk h
      obtain ⟨c_17, h⟩ := rz_chk h
      obtain ⟨M_18, q_19, h⟩ := rz_m h
      refine rg_zast hx hb hK hR c_14 c_16 c_17 dP_quantified_85 (fun H locs hR => ?_)
      rw [← q_19] at hR
      have c_20 : mK M_18 a_5 = 4 := by rw [q_19]; exact c_10
      have c_21 : mK M_18 a0 = 2 := by rw [q_19]; exact c_11
      have c_22 : mK M_18 a_12 = 23 := by rw [q_19]; exact c_14
      refine lr_aload_n hx hb dP_quantified_86 rfl (lv_at hl 3 rfl) ?_
      refine lv_aload_n hx hb dP_quantified_87 rfl (lv_at hl 1 rfl) ?_
      refine lv_iload_n hx hb dP_quantified_88 rfl (lv_at hl 2 rfl) ?_
      refine lv_iconst (v := 1) hx hb dP_quantified_89 (by decide) ?_
      refine lv_iadd hx hb dP_quantified_90 ?_
      obtain ⟨q_26, M_24, h_25, h⟩ := rz_c h
      refine rc_V (rest := [va_rf r2]) (As := [.int (x1 + 1)]) hx hb (hl.1.trans hml.symm) hown hK hR hRm mfP_one kl_P_83 hk_P rfl rfl c_21 (by simp [cat_rf, cat_i, cat_a, cat_l, cat_n]) (hC 15 _ _ _ _ h_25) dP_quantified_91 (fun v1 H locs cells slots ev hR => ?_) (fun x1 q1 ce1 H locs cells slots ex hR g1 g2 g3 => ?_)
      · rcases h with ⟨v_23, ev2, h⟩ | ⟨e2, ee2, -⟩
        · cases ev.symm.trans ev2
          replace h := rz_p h
          obtain ⟨r_27, rfl, h⟩ := h
          dsimp only [Option.toList, List.cons_append, List.nil_append]
          obtain ⟨a_28, e_29, h⟩ := rz_d h
          rw [e_29]
          obtain ⟨c_30, h⟩ := rz_chk h
          obtain ⟨M_31, q_32, h⟩ := rz_m h
          refine rg_putP (r := r_27) hx hb hown hK hR hk_N 3 (by decide) kf_P_72 rfl rfl (ty := .object "HeadCount$Node") (by decide +kernel) (Or.inl ⟨_, rfl⟩) c_30 dP_quantified_94 (fun H locs hR => ?_)
          rw [← q_32] at hR
          have c_33 : mK M_31 a_28 = 4 := by rw [q_32]; exact c_30
          refine lv_aload_n hx hb dP_quantified_97 rfl (lv_at hl 1 rfl) ?_
          obtain ⟨c_34, h⟩ := rz_chk h
          refine rg_getP hx hb hown hK hR hk_P 4 (by decide) kf_P_23 rfl c_34 dP_quantified_98 ?_
          refine lv_iload_n hx hb dP_quantified_101 rfl (lv_at hl 4 rfl) ?_
          refine lv_iload hx hb dP_quantified_102 (lv_at hl 0 rfl) ?_
          obtain ⟨a_35, e_36, h⟩ := rz_d h
          rw [e_36]
          obtain ⟨c_37, h⟩ := rz_chk h
          obtain ⟨c_38, h⟩ := rz_chk h
          obtain ⟨c_39, h⟩ := rz_chk h
          obtain ⟨M_40, q_41, h⟩ := rz_m h
          refine rg_zast hx hb hK hR c_37 c_38 c_39 dP_quantified_104 (fun H locs hR => ?_)
          rw [← q_41] at hR
          have c_42 : mK M_40 a_28 = 4 := by rw [q_41]; exact c_33
          have c_43 : mK M_40 a0 = 2 := by rw [q_41]; exact c_34
          have c_44 : mK M_40 a_35 = 23 := by rw [q_41]; exact c_37
          refine lr_aload_n hx hb dP_quantified_105 rfl (lv_at hl 3 rfl) ?_
          cases h
          exact rt_a (r := r2) hx hb hlk hrt (Or.inl ⟨_, rfl⟩) hR dP_quantified_106
        · cases ev.symm.trans ee2
      · rcases h with ⟨v2, ev2, -⟩ | ⟨e2, ee2, h⟩
        · cases ex.symm.trans ev2
        · cases ex.symm.trans ee2
          cases h
          exact rt_x hlk hex hR g1 g2 g3
    · cases ev.symm.trans ee2
  · rcases h with ⟨v2, ev2, -⟩ | ⟨e2, ee2, h⟩
    · cases ex.symm.trans ev2
    · cases ex.symm.trans ee2
      cases h
      exact rt_x hlk hex hR g1 g2 g3
def fP_quantified_62 (n d : Nat) (C : Cx) (a0 : Nat) (x1 : Int32) (r2 : Option Nat) (x3 : Int32) (M : Mem) : Rz := fP_quantified_63 n d C a0 x1 r2 x3 0 M
set_option maxRecDepth 100000 in
set_option maxHeartbeats 4000000 in
theorem tP_quantified_62 {n : Nat} (F : FX p s m meth c G R M0 d "HeadCount$Parser" bP_quantified 5 (some (.object "HeadCount$Node"))) (hC : CBs l G d C) : ∀ (a0 : Nat) (x1 : Int32) (r2 : Option Nat) (x3 : Int32) (M : Mem) (H : Heap) (locs : List Loc) (cells slots : Nat) (ls : Array Slot), fP_quantified_62 n d C a0 x1 r2 x3 M = some (r, M') → RL G M0 M H locs cells slots → lv_has ls 5 [(0, .ref a0), (1, .int x1), (2, va_rf r2), (3, .int x3)] → W p l e R s m args below meth c H locs cells slots (CQ G below s M0 r M') (F0 m 62 ls []) := by
  obtain ⟨hx, hb, hml, hown, hrt, hlk, hex, hK, hRm⟩ := id F
  intro a0 x1 r2 x3 M H locs cells slots ls h hR hl
  unfold fP_quantified_62 at h
  refine lv_iconst (v := 0) hx hb dP_quantified_62 (by decide) ?_
  exact tP_quantified_63 F hC a0 x1 r2 x3 0 _ _ _ _ _ _ h hR (lv_sub hl [0, 1, 2, 3] rfl)
def fP_quantified_32 (n d : Nat) (C : Cx) (a0 : Nat) (x1 : Int32) (r2 : Option Nat) (xs0 : Int32) (M : Mem) : Rz := rzC (C 16 [.int xs0] M) fun v_1 M_2 => (rzV v_1 (if mK M_2 a0 = 2 then (rzC (C 19 [.ref a0] M_2) fun v_6 M_7 => (rzI v_6 fun x_10 => (if (mC M_2 1) = mC M_7 1 then (rzC (C 24 [.ref (mC M_2 1), .int x_10] M_7) fun v_11 M_12 => (rzI v_11 fun x_16 => (if x_16 < 0 then (fP_quantified_62 n d C a0 x1 r2 x_16 M_12) else (if mK M_12 a0 = 2 then (rzD (mP M_12 a0 4) fun a_19 => (if mK M_12 a_19 = 23 then (if (nI (mL M_12 a_19)) ≤ x_16 then (fP_quantified_62 n d C a0 x1 r2 x_16 M_12) else (fP_quantified_63 n d C a0 x1 r2 x_16 1 M_12)) else none)) else none)))) else none))) else none))
set_option maxRecDepth 100000 in
set_option maxHeartbeats 4000000 in
theorem tP_quantified_32 {n : Nat} (F : FX p s m meth c G R M0 d "HeadCount$Parser" bP_quantified 5 (some (.object "HeadCount$Node"))) (hC : CBs l G d C) : ∀ (a0 : Nat) (x1 : Int32) (r2 : Option Nat) (xs0 : Int32) (M : Mem) (H : Heap) (locs : List Loc) (cells slots : Nat) (ls : Array Slot), fP_quantified_32 n d C a0 x1 r2 xs0 M = some (r, M') → RL G M0 M H locs cells slots → lv_has ls 5 [(0, .ref a0), (1, .int x1), (2, va_rf r2)] → W p l e R s m args below meth c H locs cells slots (CQ G below s M0 r M') (F0 m 32 ls [.int xs0]) := by
  obtain ⟨hx, hb, hml, hown, hrt, hlk, hex, hK, hRm⟩ := id F
  intro a0 x1 r2 xs0 M H locs cells slots ls h hR hl
  unfold fP_quantified_32 at h
  obtain ⟨q_4, M_2, h_3, h⟩ := rz_c h
  refine rc_S (rest := []) (As := [.int xs0]) hx hb (hl.1.trans hml.symm) hown hK hR hRm mfP_insist kl_P_51 rfl (by simp [cat_rf, cat_i, cat_a, cat_l, cat_n]) (hC 16 _ _ _ _ h_3) dP_quantified_32 (fun v1 H locs cells slots ev hR => ?_) (fun x1 q1 ce1 H locs cells slots ex hR g1 g2 g3 => ?_)
  · rcases h with ⟨v_1, ev2, h⟩ | ⟨e2, ee2, -⟩
    · cases ev.symm.trans ev2
      replace h := rz_v h
      obtain ⟨rfl, h⟩ := h
      dsimp only [Option.toList, List.cons_append, List.nil_append]
      have hcc := hR.2.2.2.2.1
      refine va_ldcS (q := mC M_2 1) hx hb hown (by rw [hcc]; exact hK.2.2.2.1.1) dP_quantified_35 ?_
      refine lv_aload_n hx hb dP_quantified_37 rfl (lv_at hl 0 rfl) ?_
      obtain ⟨c_5, h⟩ := rz_chk h
      obtain ⟨q_9, M_7, h_8, h⟩ := rz_c h
      refine rc_V (rest := [.ref (mC M_2 1)]) (As := []) hx hb (hl.1.trans hml.symm) hown hK hR hRm mfP_next kl_P_112 hk_P rfl rfl c_5 (by simp [cat_rf, cat_i, cat_a, cat_l, cat_n]) (hC 19 _ _ _ _ h_8) dP_quantified_38 (fun v1 H locs cells slots ev hR => ?_) (fun x1 q1 ce1 H locs cells slots ex hR g1 g2 g3 => ?_)
      · rcases h with ⟨v_6, ev2, h⟩ | ⟨e2, ee2, -⟩
        · cases ev.symm.trans ev2
          replace h := rz_i h
          obtain ⟨x_10, rfl, h⟩ := h
          dsimp only [Option.toList, List.cons_append, List.nil_append]
          obtain ⟨c_15, h⟩ := rz_chk h
          obtain ⟨q_14, M_12, h_13, h⟩ := rz_c h
          refine rc_VS (rest := []) (As := [.int x_10]) hx hb (hl.1.trans hml.symm) hown hK hR hRm mfS_indexOf kl_P_114 rfl rfl c_15 (by simp [cat_rf, cat_i, cat_a, cat_l, cat_n]) (hC 24 _ _ _ _ h_13) dP_quantified_41 (fun v1 H locs cells slots ev hR => ?_) (fun x1 q1 ce1 H locs cells slots ex hR g1 g2 g3 => ?_)
          · rcases h with ⟨v_11, ev2, h⟩ | ⟨e2, ee2, -⟩
            · cases ev.symm.trans ev2
              replace h := rz_i h
              obtain ⟨x_16, rfl, h⟩ := h
              dsimp only [Option.toList, List.cons_append, List.nil_append]
              refine lv_istore_n (lv' := [(3, .int x_16), (0, .ref a0), (1, .int x1), (2, va_rf r2)]) hx hb dP_quantified_44 rfl hl (by decide) (by first | (simp [cat_rf, cat_i, cat_a, cat_l, cat_n]; done) | (simp [cat_rf, cat_i, cat_a, cat_l, cat_n]; decide)) (fun ls hl => ?_)
              refine lv_iload_n hx hb dP_quantified_45 rfl (lv_at hl 0 rfl) ?_
              refine lv_if_lt (tgt := 62) hx hb dP_quantified_46 (by decide) (fun c_17 => ?_) (fun c_17 => ?_)
              · replace h := rz_t c_17 h
                exact tP_quantified_62 F hC a0 x1 r2 x_16 _ _ _ _ _ _ h hR (lv_sub hl [1, 2, 3, 0] rfl)
              · replace h := rz_f c_17 h
                refine lv_iload_n hx hb dP_quantified_49 rfl (lv_at hl 0 rfl) ?_
                refine lv_aload_n hx hb dP_quantified_50 rfl (lv_at hl 1 rfl) ?_
                obtain ⟨c_18, h⟩ := rz_chk h
                refine rg_getP hx hb hown hK hR hk_P 4 (by decide) kf_P_23 rfl c_18 dP_quantified_51 ?_
                obtain ⟨a_19, e_20, h⟩ := rz_d h
                rw [e_20]
                obtain ⟨c_21, h⟩ := rz_chk h
                refine rg_alen hx hb hK hR 23 c_21 (by decide) (by decide) dP_quantified_54 ?_
                refine lv_icmp_ge (tgt := 62) hx hb dP_quantified_55 (by decide) (fun c_22 => ?_) (fun c_22 => ?_)
                · replace h := rz_t c_22 h
                  exact tP_quantified_62 F hC a0 x1 r2 x_16 _ _ _ _ _ _ h hR (lv_sub hl [1, 2, 3, 0] rfl)
                · replace h := rz_f c_22 h
                  refine lv_iconst (v := 1) hx hb dP_quantified_58 (by decide) ?_
                  refine lv_goto (tgt := 63) hx hb dP_quantified_59 (by decide) ?_
                  exact tP_quantified_63 F hC a0 x1 r2 x_16 1 _ _ _ _ _ _ h hR (lv_sub hl [1, 2, 3, 0] rfl)
            · cases ev.symm.trans ee2
          · rcases h with ⟨v2, ev2, -⟩ | ⟨e2, ee2, h⟩
            · cases ex.symm.trans ev2
            · cases ex.symm.trans ee2
              cases h
              exact rt_x hlk hex hR g1 g2 g3
        · cases ev.symm.trans ee2
      · rcases h with ⟨v2, ev2, -⟩ | ⟨e2, ee2, h⟩
        · cases ex.symm.trans ev2
        · cases ex.symm.trans ee2
          cases h
          exact rt_x hlk hex hR g1 g2 g3
    · cases ev.symm.trans ee2
  · rcases h with ⟨v2, ev2, -⟩ | ⟨e2, ee2, h⟩
    · cases ex.symm.trans ev2
    · cases ex.symm.trans ee2
      cases h
      exact rt_x hlk hex hR g1 g2 g3
def fP_quantified_0 (n d : Nat) (C : Cx) (a0 : Nat) (x1 : Int32) (M : Mem) : Rz := if mK M a0 = 2 then (rzC (C 19 [.ref a0] M) fun v_2 M_3 => (rzI v_2 fun x_6 => (if mK M_3 a0 = 2 then (rzC (C 20 [.ref a0, .int x_6] M_3) fun v_8 M_9 => (rzP v_8 fun r_12 => (if mK M_9 a0 = 2 then (rzM (setI M_9 a0 3 ((mI M_9 a0 3) + 1)) fun M_14 => (if 4 < (mI M_14 a0 3) then (fP_quantified_32 n d C a0 x1 r_12 0 M_14) else (fP_quantified_32 n d C a0 x1 r_12 1 M_14))) else none))) else none))) else none
set_option maxRecDepth 100000 in
set_option maxHeartbeats 4000000 in
theorem tP_quantified_0 {n : Nat} (F : FX p s m meth c G R M0 d "HeadCount$Parser" bP_quantified 5 (some (.object "HeadCount$Node"))) (hC : CBs l G d C) : ∀ (a0 : Nat) (x1 : Int32) (M : Mem) (H : Heap) (locs : List Loc) (cells slots : Nat) (ls : Array Slot), fP_quantified_0 n d C a0 x1 M = some (r, M') → RL G M0 M H locs cells slots → lv_has ls 5 [(0, .ref a0), (1, .int x1)] → W p l e R s m args below meth c H locs cells slots (CQ G below s M0 r M') (F0 m 0 ls []) := by
  obtain ⟨hx, hb, hml, hown, hrt, hlk, hex, hK, hRm⟩ := id F
  intro a0 x1 M H locs cells slots ls h hR hl
  unfold fP_quantified_0 at h
  refine lv_aload_n hx hb dP_quantified_0 rfl (lv_at hl 0 rfl) ?_
  refine lv_aload_n hx hb dP_quantified_1 rfl (lv_at hl 0 rfl) ?_
  obtain ⟨c_1, h⟩ := rz_chk h
  obtain ⟨q_5, M_3, h_4, h⟩ := rz_c h
  refine rc_V (rest := [.ref a0]) (As := []) hx hb (hl.1.trans hml.symm) hown hK hR hRm mfP_next kl_P_112 hk_P rfl rfl c_1 (by simp [cat_rf, cat_i, cat_a, cat_l, cat_n]) (hC 19 _ _ _ _ h_4) dP_quantified_2 (fun v1 H locs cells slots ev hR => ?_) (fun x1 q1 ce1 H locs cells slots ex hR g1 g2 g3 => ?_)
  · rcases h with ⟨v_2, ev2, h⟩ | ⟨e2, ee2, -⟩
    · cases ev.symm.trans ev2
      replace h := rz_i h
      obtain ⟨x_6, rfl, h⟩ := h
      dsimp only [Option.toList, List.cons_append, List.nil_append]
      obtain ⟨c_7, h⟩ := rz_chk h
      obtain ⟨q_11, M_9, h_10, h⟩ := rz_c h
      refine rc_V (rest := []) (As := [.int x_6]) hx hb (hl.1.trans hml.symm) hown hK hR hRm mfP_make kl_P_68 hk_P rfl rfl c_7 (by simp [cat_rf, cat_i, cat_a, cat_l, cat_n]) (hC 20 _ _ _ _ h_10) dP_quantified_5 (fun v1 H locs cells slots ev hR => ?_) (fun x1 q1 ce1 H locs cells slots ex hR g1 g2 g3 => ?_)
      · rcases h with ⟨v_8, ev2, h⟩ | ⟨e2, ee2, -⟩
        · cases ev.symm.trans ev2
          replace h := rz_p h
          obtain ⟨r_12, rfl, h⟩ := h
          dsimp only [Option.toList, List.cons_append, List.nil_append]
          refine lr_astore_n (lv' := [(2, va_rf r_12), (0, .ref a0), (1, .int x1)]) hx hb dP_quantified_8 rfl hl (by decide) rfl (fun ls hl => ?_)
          refine lv_aload_n hx hb dP_quantified_9 rfl (lv_at hl 1 rfl) ?_
          refine lv_dup hx hb dP_quantified_10 rfl ?_
          obtain ⟨c_13, h⟩ := rz_chk h
          refine rg_getI hx hb hown hK hR hk_P 3 (by decide) kf_P_55 rfl c_13 dP_quantified_11 ?_
          refine lv_iconst (v := 1) hx hb dP_quantified_14 (by decide) ?_
          refine lv_iadd hx hb dP_quantified_15 ?_
          obtain ⟨M_14, q_15, h⟩ := rz_m h
          refine rg_putI hx hb hown hK hR hk_P 3 (by decide) kf_P_55 rfl rfl (ty := .int) (by decide +kernel) (Or.inl rfl) rfl c_13 dP_quantified_16 (fun H locs hR => ?_)
          rw [← q_15] at hR
          have c_16 : mK M_14 a0 = 2 := by rw [q_15]; exact c_13
          refine lv_aload_n hx hb dP_quantified_19 rfl (lv_at hl 1 rfl) ?_
          refine rg_getI hx hb hown hK hR hk_P 3 (by decide) kf_P_55 rfl c_16 dP_quantified_20 ?_
          refine lv_iconst (v := 4) hx hb dP_quantified_23 (by decide) ?_
          refine lv_icmp_gt (tgt := 31) hx hb dP_quantified_24 (by decide) (fun c_17 => ?_) (fun c_17 => ?_)
          · replace h := rz_t c_17 h
            refine lv_iconst (v := 0) hx hb dP_quantified_31 (by decide) ?_
            exact tP_quantified_32 F hC a0 x1 r_12 0 _ _ _ _ _ _ h hR (lv_sub hl [1, 2, 0] rfl)
          · replace h := rz_f c_17 h
            refine lv_iconst (v := 1) hx hb dP_quantified_27 (by decide) ?_
            refine lv_goto (tgt := 32) hx hb dP_quantified_28 (by decide) ?_
            exact tP_quantified_32 F hC a0 x1 r_12 1 _ _ _ _ _ _ h hR (lv_sub hl [1, 2, 0] rfl)
        · cases ev.symm.trans ee2
      · rcases h with ⟨v2, ev2, -⟩ | ⟨e2, ee2, h⟩
        · cases ex.symm.trans ev2
        · cases ex.symm.trans ee2
          cases h
          exact rt_x hlk hex hR g1 g2 g3
    · cases ev.symm.trans ee2
  · rcases h with ⟨v2, ev2, -⟩ | ⟨e2, ee2, h⟩
    · cases ex.symm.trans ev2
    · cases ex.symm.trans ee2
      cases h
      exact rt_x hlk hex hR g1 g2 g3
set_option maxRecDepth 100000 in
set_option maxHeartbeats 4000000 in
theorem sP_quantified {l : Launch} {G : Gx} {n d : Nat} {C : Cx} (hC : CBs l G d C) (a0 : Nat) (x1 : Int32) {M M' : Mem} {r : Option Value ⊕ Nat} (h : fP_quantified_0 n d C a0 x1 M = some (r, M')) : CB l G (d + 1) yP_quantified [.ref a0, .int x1] M r M' := by
  intro p e R s m below meth c hx hn hm hc hlk hK hR hcap hS hU hfr hlo hrc hrs
  obtain ⟨hb, hml, hrt, hex, hown⟩ := fx_of hn hm hc (hK.w mfP_quantified.2.2.1 rfl #[])
  have F : FX p s m meth c G R M d "HeadCount$Parser" bP_quantified 5 (some (.object "HeadCount$Node")) := ⟨hx, hb, hml, hown, hrt, hlk, hex, hK, hfr, hlo, by rw [← hcap]; exact hrc, hrs⟩
  rw [hml]
  have hl := lv_entry ([.ref a0, .int x1]) (n := 5) (by simp [lg_sl, cat_rf, cat_i, cat_a, cat_l, cat_n])
  rw [lg_entry_eq]
  generalize (lg_sl ([.ref a0, .int x1]) ++ List.replicate (5 - (lg_sl ([.ref a0, .int x1])).length) Slot.unset).toArray = ls at hl ⊢
  have hl : lv_has ls 5 [(0, .ref a0), (1, .int x1)] := by simpa [lv_args, cat_rf, cat_i, cat_a, cat_l, cat_n] using hl
  exact tP_quantified_0 F hC a0 x1 _ _ _ _ _ _ h (RL.start hR hcap hS hU) (lv_sub hl [0, 1] rfl)
def fP_bracketed_0 (n d : Nat) (C : Cx) (a0 : Nat) (x1 : Int32) (M : Mem) : Rz := if mK M a0 = 2 then (rzC (C 19 [.ref a0] M) fun v_2 M_3 => (rzI v_2 fun x_6 => (if mK M_3 a0 = 2 then (rzC (C 20 [.ref a0, .int x_6] M_3) fun v_8 M_9 => (rzP v_8 fun r_12 => (if mK M_9 a0 = 2 then (rzC (C 13 [.ref a0, .int 124, .int (x1 + 1)] M_9) fun v_14 M_15 => (rzP v_14 fun r_18 => (rzD r_12 fun a_19 => (if mK M_15 a_19 = 4 then (rzM (setP M_15 a_19 3 r_18) fun M_22 => (if mK M_22 a0 = 2 then (rzC (C 31 [.ref a0, .int 41] M_22) fun v_26 M_27 => (rzI v_26 fun x_30 => (rzC (C 16 [.int x_30] M_27) fun v_31 M_32 => (rzV v_31 (some (.inl (some (va_rf r_12)), M_32)))))) else none)) else none)))) else none))) else none))) else none
set_option maxRecDepth 100000 in
set_option maxHeartbeats 4000000 in
theorem tP_bracketed_0 {n : Nat} (F : FX p s m meth c G R M0 d "HeadCount$Parser" bP_bracketed 3 (some (.object "HeadCount$Node"))) (hC : CBs l G d C) : ∀ (a0 : Nat) (x1 : Int32) (M : Mem) (H : Heap) (locs : List Loc) (cells slots : Nat) (ls : Array Slot), fP_bracketed_0 n d C a0 x1 M = some (r, M') → RL G M0 M H locs cells slots → lv_has ls 3 [(0, .ref a0), (1, .int x1)] → W p l e R s m args below meth c H locs cells slots (CQ G below s M0 r M') (F0 m 0 ls []) := by
  obtain ⟨hx, hb, hml, hown, hrt, hlk, hex, hK, hRm⟩ := id F
  intro a0 x1 M H locs cells slots ls h hR hl
  unfold fP_bracketed_0 at h
  refine lv_aload_n hx hb dP_bracketed_0 rfl (lv_at hl 0 rfl) ?_
  refine lv_aload_n hx hb dP_bracketed_1 rfl (lv_at hl 0 rfl) ?_
  obtain ⟨c_1, h⟩ := rz_chk h
  obtain ⟨q_5, M_3, h_4, h⟩ := rz_c h
  refine rc_V (rest := [.ref a0]) (As := []) hx hb (hl.1.trans hml.symm) hown hK hR hRm mfP_next kl_P_112 hk_P rfl rfl c_1 (by simp [cat_rf, cat_i, cat_a, cat_l, cat_n]) (hC 19 _ _ _ _ h_4) dP_bracketed_2 (fun v1 H locs cells slots ev hR => ?_) (fun x1 q1 ce1 H locs cells slots ex hR g1 g2 g3 => ?_)
  · rcases h with ⟨v_2, ev2, h⟩ | ⟨e2, ee2, -⟩
    · cases ev.symm.trans ev2
      replace h := rz_i h
      obtain ⟨x_6, rfl, h⟩ := h
      dsimp only [Option.toList, List.cons_append, List.nil_append]
      obtain ⟨c_7, h⟩ := rz_chk h
      obtain ⟨q_11, M_9, h_10, h⟩ := rz_c h
      refine rc_V (rest := []) (As := [.int x_6]) hx hb (hl.1.trans hml.symm) hown hK hR hRm mfP_make kl_P_68 hk_P rfl rfl c_7 (by simp [cat_rf, cat_i, cat_a, cat_l, cat_n]) (hC 20 _ _ _ _ h_10) dP_bracketed_5 (fun v1 H locs cells slots ev hR => ?_) (fun x1 q1 ce1 H locs cells slots ex hR g1 g2 g3 => ?_)
      · rcases h with ⟨v_8, ev2, h⟩ | ⟨e2, ee2, -⟩
        · cases ev.symm.trans ev2
          replace h := rz_p h
          obtain ⟨r_12, rfl, h⟩ := h
          dsimp only [Option.toList, List.cons_append, List.nil_append]
          refine lr_astore_n (lv' := [(2, va_rf r_12), (0, .ref a0), (1, .int x1)]) hx hb dP_bracketed_8 rfl hl (by decide) rfl (fun ls hl => ?_)
          refine lr_aload_n hx hb dP_bracketed_9 rfl (lv_at hl 0 rfl) ?_
          refine lv_aload_n hx hb dP_bracketed_10 rfl (lv_at hl 1 rfl) ?_
          refine lv_bipush (v := 124) hx hb dP_bracketed_11 (by decide) ?_
          refine lv_iload_n hx hb dP_bracketed_13 rfl (lv_at hl 2 rfl) ?_
          refine lv_iconst (v := 1) hx hb dP_bracketed_14 (by decide) ?_
          refine lv_iadd hx hb dP_bracketed_15 ?_
          obtain ⟨c_13, h⟩ := rz_chk h
          obtain ⟨q_17, M_15, h_16, h⟩ := rz_c h
          refine rc_V (rest := [va_rf r_12]) (As := [.int 124, .int (x1 + 1)]) hx hb (hl.1.trans hml.symm) hown hK hR hRm mfP_row kl_P_40 hk_P rfl rfl c_13 (by simp [cat_rf, cat_i, cat_a, cat_l, cat_n]) (hC 13 _ _ _ _ h_16) dP_bracketed_16 (fun v1 H locs cells slots ev hR => ?_) (fun x1 q1 ce1 H locs cells slots ex hR g1 g2 g3 => ?_)
          · rcases h with ⟨v_14, ev2, h⟩ | ⟨e2, ee2, -⟩
            · cases ev.symm.trans ev2
              replace h := rz_p h
              obtain ⟨r_18, rfl, h⟩ := h
              dsimp only [Option.toList, List.cons_append, List.nil_append]
              obtain ⟨a_19, e_20, h⟩ := rz_d h
              rw [e_20]
              obtain ⟨c_21, h⟩ := rz_chk h
              obtain ⟨M_22, q_23, h⟩ := rz_m h
              refine rg_putP (r := r_18) hx hb hown hK hR hk_N 3 (by decide) kf_P_72 rfl rfl (ty := .object "HeadCount$Node") (by decide +kernel) (Or.inl ⟨_, rfl⟩) c_21 dP_bracketed_19 (fun H locs hR => ?_)
              rw [← q_23] at hR
              have c_24 : mK M_22 a_19 = 4 := by rw [q_23]; exact c_21
              refine lv_aload_n hx hb dP_bracketed_22 rfl (lv_at hl 1 rfl) ?_
              refine lv_bipush (v := 41) hx hb dP_bracketed_23 (by decide) ?_
              obtain ⟨c_25, h⟩ := rz_chk h
              obtain ⟨q_29, M_27, h_28, h⟩ := rz_c h
              refine rc_V (rest := []) (As := [.int 41]) hx hb (hl.1.trans hml.symm) hown hK hR hRm mfP_take kl_P_76 hk_P rfl rfl c_25 (by simp [cat_rf, cat_i, cat_a, cat_l, cat_n]) (hC 31 _ _ _ _ h_28) dP_bracketed_25 (fun v1 H locs cells slots ev hR => ?_) (fun x1 q1 ce1 H locs cells slots ex hR g1 g2 g3 => ?_)
              · rcases h with ⟨v_26, ev2, h⟩ | ⟨e2, ee2, -⟩
                · cases ev.symm.trans ev2
                  replace h := rz_i h
                  obtain ⟨x_30, rfl, h⟩ := h
                  dsimp only [Option.toList, List.cons_append, List.nil_append]
                  obtain ⟨q_34, M_32, h_33, h⟩ := rz_c h
                  refine rc_S (rest := []) (As := [.int x_30]) hx hb (hl.1.trans hml.symm) hown hK hR hRm mfP_insist kl_P_51 rfl (by simp [cat_rf, cat_i, cat_a, cat_l, cat_n]) (hC 16 _ _ _ _ h_33) dP_bracketed_28 (fun v1 H locs cells slots ev hR => ?_) (fun x1 q1 ce1 H locs cells slots ex hR g1 g2 g3 => ?_)
                  · rcases h with ⟨v_31, ev2, h⟩ | ⟨e2, ee2, -⟩
                    · cases ev.symm.trans ev2
                      replace h := rz_v h
                      obtain ⟨rfl, h⟩ := h
                      dsimp only [Option.toList, List.cons_append, List.nil_append]
                      refine lr_aload_n hx hb dP_bracketed_31 rfl (lv_at hl 0 rfl) ?_
                      cases h
                      exact rt_a (r := r_12) hx hb hlk hrt (Or.inl ⟨_, rfl⟩) hR dP_bracketed_32
                    · cases ev.symm.trans ee2
                  · rcases h with ⟨v2, ev2, -⟩ | ⟨e2, ee2, h⟩
                    · cases ex.symm.trans ev2
                    · cases ex.symm.trans ee2
                      cases h
                      exact rt_x hlk hex hR g1 g2 g3
                · cases ev.symm.trans ee2
              · rcases h with ⟨v2, ev2, -⟩ | ⟨e2, ee2, h⟩
                · cases ex.symm.trans ev2
                · cases ex.symm.trans ee2
                  cases h
                  exact rt_x hlk hex hR g1 g2 g3
            · cases ev.symm.trans ee2
          · rcases h with ⟨v2, ev2, -⟩ | ⟨e2, ee2, h⟩
            · cases ex.symm.trans ev2
            · cases ex.symm.trans ee2
              cases h
              exact rt_x hlk hex hR g1 g2 g3
        · cases ev.symm.trans ee2
      · rcases h with ⟨v2, ev2, -⟩ | ⟨e2, ee2, h⟩
        · cases ex.symm.trans ev2
        · cases ex.symm.trans ee2
          cases h
          exact rt_x hlk hex hR g1 g2 g3
    · cases ev.symm.trans ee2
  · rcases h with ⟨v2, ev2, -⟩ | ⟨e2, ee2, h⟩
    · cases ex.symm.trans ev2
    · cases ex.symm.trans ee2
      cases h
      exact rt_x hlk hex hR g1 g2 g3
set_option maxRecDepth 100000 in
set_option maxHeartbeats 4000000 in
theorem sP_bracketed {l : Launch} {G : Gx} {n d : Nat} {C : Cx} (hC : CBs l G d C) (a0 : Nat) (x1 : Int32) {M M' : Mem} {r : Option Value ⊕ Nat} (h : fP_bracketed_0 n d C a0 x1 M = some (r, M')) : CB l G (d + 1) yP_bracketed [.ref a0, .int x1] M r M' := by
  intro p e R s m below meth c hx hn hm hc hlk hK hR hcap hS hU hfr hlo hrc hrs
  obtain ⟨hb, hml, hrt, hex, hown⟩ := fx_of hn hm hc (hK.w mfP_bracketed.2.2.1 rfl #[])
  have F : FX p s m meth c G R M d "HeadCount$Parser" bP_bracketed 3 (some (.object "HeadCount$Node")) := ⟨hx, hb, hml, hown, hrt, hlk, hex, hK, hfr, hlo, by rw [← hcap]; exact hrc, hrs⟩
  rw [hml]
  have hl := lv_entry ([.ref a0, .int x1]) (n := 3) (by simp [lg_sl, cat_rf, cat_i, cat_a, cat_l, cat_n])
  rw [lg_entry_eq]
  generalize (lg_sl ([.ref a0, .int x1]) ++ List.replicate (3 - (lg_sl ([.ref a0, .int x1])).length) Slot.unset).toArray = ls at hl ⊢
  have hl : lv_has ls 3 [(0, .ref a0), (1, .int x1)] := by simpa [lv_args, cat_rf, cat_i, cat_a, cat_l, cat_n] using hl
  exact tP_bracketed_0 F hC a0 x1 _ _ _ _ _ _ h (RL.start hR hcap hS hU) (lv_sub hl [0, 1] rfl)
end
