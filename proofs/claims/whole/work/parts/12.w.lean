theorem dO_init_0 : decode bO_init 0 = .ok (.aload_n 0, 1) := by decide +kernel
theorem dO_init_1 : decode bO_init 1 = .ok (.invokespecial 3, 3) := by decide +kernel
theorem dO_init_4 : decode bO_init 4 = .ok (.aload_n 0, 1) := by decide +kernel
theorem dO_init_5 : decode bO_init 5 = .ok (.ldc 9, 2) := by decide +kernel
theorem dO_init_7 : decode bO_init 7 = .ok (.invokevirtual 11, 3) := by decide +kernel
theorem dO_init_10 : decode bO_init 10 = .ok (.newarray .int, 2) := by decide +kernel
theorem dO_init_12 : decode bO_init 12 = .ok (.putfield 17, 3) := by decide +kernel
theorem dO_init_15 : decode bO_init 15 = .ok (.return_, 1) := by decide +kernel
theorem dO_count_0 : decode bO_count 0 = .ok (.aload_n 0, 1) := by decide +kernel
theorem dO_count_1 : decode bO_count 1 = .ok (.iload_n 2, 1) := by decide +kernel
theorem dO_count_2 : decode bO_count 2 = .ok (.putfield 23, 3) := by decide +kernel
theorem dO_count_5 : decode bO_count 5 = .ok (.aload_n 0, 1) := by decide +kernel
theorem dO_count_6 : decode bO_count 6 = .ok (.iconst 1, 1) := by decide +kernel
theorem dO_count_7 : decode bO_count 7 = .ok (.iload_n 2, 1) := by decide +kernel
theorem dO_count_8 : decode bO_count 8 = .ok (.ishl, 1) := by decide +kernel
theorem dO_count_9 : decode bO_count 9 = .ok (.iconst 1, 1) := by decide +kernel
theorem dO_count_10 : decode bO_count 10 = .ok (.isub, 1) := by decide +kernel
theorem dO_count_11 : decode bO_count 11 = .ok (.putfield 27, 3) := by decide +kernel
theorem dO_count_14 : decode bO_count 14 = .ok (.aload_n 1, 1) := by decide +kernel
theorem dO_count_15 : decode bO_count 15 = .ok (.getfield 30, 3) := by decide +kernel
theorem dO_count_18 : decode bO_count 18 = .ok (.bipush 65, 2) := by decide +kernel
theorem dO_count_20 : decode bO_count 20 = .ok (.if_icmp .eq 26, 3) := by decide +kernel
theorem dO_count_23 : decode bO_count 23 = .ok (.aload_n 1, 1) := by decide +kernel
theorem dO_count_24 : decode bO_count 24 = .ok (.getfield 30, 3) := by decide +kernel
theorem dO_count_27 : decode bO_count 27 = .ok (.bipush 69, 2) := by decide +kernel
theorem dO_count_29 : decode bO_count 29 = .ok (.if_icmp .eq 17, 3) := by decide +kernel
theorem dO_count_32 : decode bO_count 32 = .ok (.aload_n 0, 1) := by decide +kernel
theorem dO_count_33 : decode bO_count 33 = .ok (.aload_n 1, 1) := by decide +kernel
theorem dO_count_34 : decode bO_count 34 = .ok (.invokevirtual 36, 3) := by decide +kernel
theorem dO_count_37 : decode bO_count 37 = .ok (.ifCond .eq 7, 3) := by decide +kernel
theorem dO_count_40 : decode bO_count 40 = .ok (.iconst 1, 1) := by decide +kernel
theorem dO_count_41 : decode bO_count 41 = .ok (.goto 4, 3) := by decide +kernel
theorem dO_count_44 : decode bO_count 44 = .ok (.iconst 0, 1) := by decide +kernel
theorem dO_count_45 : decode bO_count 45 = .ok (.ireturn, 1) := by decide +kernel
theorem dO_count_46 : decode bO_count 46 = .ok (.iconst 0, 1) := by decide +kernel
theorem dO_count_47 : decode bO_count 47 = .ok (.istore_n 3, 1) := by decide +kernel
theorem dO_count_48 : decode bO_count 48 = .ok (.aload_n 1, 1) := by decide +kernel
theorem dO_count_49 : decode bO_count 49 = .ok (.getfield 40, 3) := by decide +kernel
theorem dO_count_52 : decode bO_count 52 = .ok (.invokestatic 43, 3) := by decide +kernel
theorem dO_count_55 : decode bO_count 55 = .ok (.istore 4, 2) := by decide +kernel
theorem dO_count_57 : decode bO_count 57 = .ok (.iload 4, 2) := by decide +kernel
theorem dO_count_59 : decode bO_count 59 = .ok (.aload_n 1, 1) := by decide +kernel
theorem dO_count_60 : decode bO_count 60 = .ok (.getfield 40, 3) := by decide +kernel
theorem dO_count_63 : decode bO_count 63 = .ok (.iload_n 2, 1) := by decide +kernel
theorem dO_count_64 : decode bO_count 64 = .ok (.invokestatic 47, 3) := by decide +kernel
theorem dO_count_67 : decode bO_count 67 = .ok (.iadd, 1) := by decide +kernel
theorem dO_count_68 : decode bO_count 68 = .ok (.istore 5, 2) := by decide +kernel
theorem dO_count_70 : decode bO_count 70 = .ok (.iload 4, 2) := by decide +kernel
theorem dO_count_72 : decode bO_count 72 = .ok (.istore 6, 2) := by decide +kernel
theorem dO_count_74 : decode bO_count 74 = .ok (.iload 6, 2) := by decide +kernel
theorem dO_count_76 : decode bO_count 76 = .ok (.iload 5, 2) := by decide +kernel
theorem dO_count_78 : decode bO_count 78 = .ok (.if_icmp .ge 33, 3) := by decide +kernel
theorem dO_count_81 : decode bO_count 81 = .ok (.aload_n 0, 1) := by decide +kernel
theorem dO_count_82 : decode bO_count 82 = .ok (.aload_n 1, 1) := by decide +kernel
theorem dO_count_83 : decode bO_count 83 = .ok (.getfield 40, 3) := by decide +kernel
theorem dO_count_86 : decode bO_count 86 = .ok (.iload 6, 2) := by decide +kernel
theorem dO_count_88 : decode bO_count 88 = .ok (.invokevirtual 51, 3) := by decide +kernel
theorem dO_count_91 : decode bO_count 91 = .ok (.aload_n 0, 1) := by decide +kernel
theorem dO_count_92 : decode bO_count 92 = .ok (.aload_n 1, 1) := by decide +kernel
theorem dO_count_93 : decode bO_count 93 = .ok (.getfield 55, 3) := by decide +kernel
theorem dO_count_96 : decode bO_count 96 = .ok (.invokevirtual 36, 3) := by decide +kernel
theorem dO_count_99 : decode bO_count 99 = .ok (.ifCond .eq 6, 3) := by decide +kernel
theorem dO_count_102 : decode bO_count 102 = .ok (.iinc 3 1, 3) := by decide +kernel
theorem dO_count_105 : decode bO_count 105 = .ok (.iinc 6 1, 3) := by decide +kernel
theorem dO_count_108 : decode bO_count 108 = .ok (.goto (-34), 3) := by decide +kernel
theorem dO_count_111 : decode bO_count 111 = .ok (.iload_n 3, 1) := by decide +kernel
theorem dO_count_112 : decode bO_count 112 = .ok (.ireturn, 1) := by decide +kernel
theorem dO_isTrue_0 : decode bO_isTrue 0 = .ok (.aload_n 1, 1) := by decide +kernel
theorem dO_isTrue_1 : decode bO_isTrue 1 = .ok (.ifnonnull 5, 3) := by decide +kernel
theorem dO_isTrue_4 : decode bO_isTrue 4 = .ok (.iconst 0, 1) := by decide +kernel
theorem dO_isTrue_5 : decode bO_isTrue 5 = .ok (.ireturn, 1) := by decide +kernel
theorem dO_isTrue_6 : decode bO_isTrue 6 = .ok (.aload_n 1, 1) := by decide +kernel
theorem dO_isTrue_7 : decode bO_isTrue 7 = .ok (.getfield 30, 3) := by decide +kernel
theorem dO_isTrue_10 : decode bO_isTrue 10 = .ok (.lookupswitch 156 #[(33, 102), (38, 84), (40, 119), (65, 128), (69, 143), (91, 150), (93, 150), (124, 74)], 74) := by decide +kernel
theorem dO_isTrue_84 : decode bO_isTrue 84 = .ok (.aload_n 0, 1) := by decide +kernel
theorem dO_isTrue_85 : decode bO_isTrue 85 = .ok (.iconst 1, 1) := by decide +kernel
theorem dO_isTrue_86 : decode bO_isTrue 86 = .ok (.aload_n 1, 1) := by decide +kernel
theorem dO_isTrue_87 : decode bO_isTrue 87 = .ok (.getfield 55, 3) := by decide +kernel
theorem dO_isTrue_90 : decode bO_isTrue 90 = .ok (.invokevirtual 59, 3) := by decide +kernel
theorem dO_isTrue_93 : decode bO_isTrue 93 = .ok (.ireturn, 1) := by decide +kernel
theorem dO_isTrue_94 : decode bO_isTrue 94 = .ok (.aload_n 0, 1) := by decide +kernel
theorem dO_isTrue_95 : decode bO_isTrue 95 = .ok (.iconst 0, 1) := by decide +kernel
theorem dO_isTrue_96 : decode bO_isTrue 96 = .ok (.aload_n 1, 1) := by decide +kernel
theorem dO_isTrue_97 : decode bO_isTrue 97 = .ok (.getfield 55, 3) := by decide +kernel
theorem dO_isTrue_100 : decode bO_isTrue 100 = .ok (.invokevirtual 59, 3) := by decide +kernel
theorem dO_isTrue_103 : decode bO_isTrue 103 = .ok (.ifCond .ne 7, 3) := by decide +kernel
theorem dO_isTrue_106 : decode bO_isTrue 106 = .ok (.iconst 1, 1) := by decide +kernel
theorem dO_isTrue_107 : decode bO_isTrue 107 = .ok (.goto 4, 3) := by decide +kernel
theorem dO_isTrue_110 : decode bO_isTrue 110 = .ok (.iconst 0, 1) := by decide +kernel
theorem dO_isTrue_111 : decode bO_isTrue 111 = .ok (.ireturn, 1) := by decide +kernel
theorem dO_isTrue_112 : decode bO_isTrue 112 = .ok (.aload_n 0, 1) := by decide +kernel
theorem dO_isTrue_113 : decode bO_isTrue 113 = .ok (.aload_n 1, 1) := by decide +kernel
theorem dO_isTrue_114 : decode bO_isTrue 114 = .ok (.getfield 55, 3) := by decide +kernel
theorem dO_isTrue_117 : decode bO_isTrue 117 = .ok (.invokevirtual 36, 3) := by decide +kernel
theorem dO_isTrue_120 : decode bO_isTrue 120 = .ok (.ifCond .ne 7, 3) := by decide +kernel
theorem dO_isTrue_123 : decode bO_isTrue 123 = .ok (.iconst 1, 1) := by decide +kernel
theorem dO_isTrue_124 : decode bO_isTrue 124 = .ok (.goto 4, 3) := by decide +kernel
theorem dO_isTrue_127 : decode bO_isTrue 127 = .ok (.iconst 0, 1) := by decide +kernel
theorem dO_isTrue_128 : decode bO_isTrue 128 = .ok (.ireturn, 1) := by decide +kernel
theorem dO_isTrue_129 : decode bO_isTrue 129 = .ok (.aload_n 0, 1) := by decide +kernel
theorem dO_isTrue_130 : decode bO_isTrue 130 = .ok (.aload_n 1, 1) := by decide +kernel
theorem dO_isTrue_131 : decode bO_isTrue 131 = .ok (.getfield 55, 3) := by decide +kernel
theorem dO_isTrue_134 : decode bO_isTrue 134 = .ok (.invokevirtual 36, 3) := by decide +kernel
theorem dO_isTrue_137 : decode bO_isTrue 137 = .ok (.ireturn, 1) := by decide +kernel
theorem dO_isTrue_138 : decode bO_isTrue 138 = .ok (.aload_n 0, 1) := by decide +kernel
theorem dO_isTrue_139 : decode bO_isTrue 139 = .ok (.iconst 0, 1) := by decide +kernel
theorem dO_isTrue_140 : decode bO_isTrue 140 = .ok (.aload_n 1, 1) := by decide +kernel
theorem dO_isTrue_141 : decode bO_isTrue 141 = .ok (.invokevirtual 63, 3) := by decide +kernel
theorem dO_isTrue_144 : decode bO_isTrue 144 = .ok (.ifCond .ne 7, 3) := by decide +kernel
theorem dO_isTrue_147 : decode bO_isTrue 147 = .ok (.iconst 1, 1) := by decide +kernel
theorem dO_isTrue_148 : decode bO_isTrue 148 = .ok (.goto 4, 3) := by decide +kernel
theorem dO_isTrue_151 : decode bO_isTrue 151 = .ok (.iconst 0, 1) := by decide +kernel
theorem dO_isTrue_152 : decode bO_isTrue 152 = .ok (.ireturn, 1) := by decide +kernel
theorem dO_isTrue_153 : decode bO_isTrue 153 = .ok (.aload_n 0, 1) := by decide +kernel
theorem dO_isTrue_154 : decode bO_isTrue 154 = .ok (.iconst 1, 1) := by decide +kernel
theorem dO_isTrue_155 : decode bO_isTrue 155 = .ok (.aload_n 1, 1) := by decide +kernel
theorem dO_isTrue_156 : decode bO_isTrue 156 = .ok (.invokevirtual 63, 3) := by decide +kernel
theorem dO_isTrue_159 : decode bO_isTrue 159 = .ok (.ireturn, 1) := by decide +kernel
theorem dO_isTrue_160 : decode bO_isTrue 160 = .ok (.aload_n 0, 1) := by decide +kernel
theorem dO_isTrue_161 : decode bO_isTrue 161 = .ok (.aload_n 1, 1) := by decide +kernel
theorem dO_isTrue_162 : decode bO_isTrue 162 = .ok (.invokevirtual 66, 3) := by decide +kernel
theorem dO_isTrue_165 : decode bO_isTrue 165 = .ok (.ireturn, 1) := by decide +kernel
theorem dO_isTrue_166 : decode bO_isTrue 166 = .ok (.aload_n 0, 1) := by decide +kernel
theorem dO_isTrue_167 : decode bO_isTrue 167 = .ok (.aload_n 1, 1) := by decide +kernel
theorem dO_isTrue_168 : decode bO_isTrue 168 = .ok (.invokevirtual 69, 3) := by decide +kernel
theorem dO_isTrue_171 : decode bO_isTrue 171 = .ok (.ireturn, 1) := by decide +kernel
theorem dO_anyIs_0 : decode bO_anyIs 0 = .ok (.aload_n 2, 1) := by decide +kernel
theorem dO_anyIs_1 : decode bO_anyIs 1 = .ok (.astore_n 3, 1) := by decide +kernel
theorem dO_anyIs_2 : decode bO_anyIs 2 = .ok (.aload_n 3, 1) := by decide +kernel
theorem dO_anyIs_3 : decode bO_anyIs 3 = .ok (.ifnull 22, 3) := by decide +kernel
theorem dO_anyIs_6 : decode bO_anyIs 6 = .ok (.aload_n 0, 1) := by decide +kernel
theorem dO_anyIs_7 : decode bO_anyIs 7 = .ok (.aload_n 3, 1) := by decide +kernel
theorem dO_anyIs_8 : decode bO_anyIs 8 = .ok (.invokevirtual 36, 3) := by decide +kernel
theorem dO_anyIs_11 : decode bO_anyIs 11 = .ok (.iload_n 1, 1) := by decide +kernel
theorem dO_anyIs_12 : decode bO_anyIs 12 = .ok (.if_icmp .ne 5, 3) := by decide +kernel
theorem dO_anyIs_15 : decode bO_anyIs 15 = .ok (.iconst 1, 1) := by decide +kernel
theorem dO_anyIs_16 : decode bO_anyIs 16 = .ok (.ireturn, 1) := by decide +kernel
theorem dO_anyIs_17 : decode bO_anyIs 17 = .ok (.aload_n 3, 1) := by decide +kernel
theorem dO_anyIs_18 : decode bO_anyIs 18 = .ok (.getfield 72, 3) := by decide +kernel
theorem dO_anyIs_21 : decode bO_anyIs 21 = .ok (.astore_n 3, 1) := by decide +kernel
theorem dO_anyIs_22 : decode bO_anyIs 22 = .ok (.goto (-20), 3) := by decide +kernel
theorem dO_anyIs_25 : decode bO_anyIs 25 = .ok (.iconst 0, 1) := by decide +kernel
theorem dO_anyIs_26 : decode bO_anyIs 26 = .ok (.ireturn, 1) := by decide +kernel
theorem dO_anyChoiceMakes_0 : decode bO_anyChoiceMakes 0 = .ok (.aload_n 2, 1) := by decide +kernel
theorem dO_anyChoiceMakes_1 : decode bO_anyChoiceMakes 1 = .ok (.getfield 40, 3) := by decide +kernel
theorem dO_anyChoiceMakes_4 : decode bO_anyChoiceMakes 4 = .ok (.istore_n 3, 1) := by decide +kernel
theorem dO_anyChoiceMakes_5 : decode bO_anyChoiceMakes 5 = .ok (.aload_n 0, 1) := by decide +kernel
theorem dO_anyChoiceMakes_6 : decode bO_anyChoiceMakes 6 = .ok (.iload_n 3, 1) := by decide +kernel
theorem dO_anyChoiceMakes_7 : decode bO_anyChoiceMakes 7 = .ok (.invokevirtual 75, 3) := by decide +kernel
theorem dO_anyChoiceMakes_10 : decode bO_anyChoiceMakes 10 = .ok (.istore 4, 2) := by decide +kernel
theorem dO_anyChoiceMakes_12 : decode bO_anyChoiceMakes 12 = .ok (.iload_n 3, 1) := by decide +kernel
theorem dO_anyChoiceMakes_13 : decode bO_anyChoiceMakes 13 = .ok (.invokestatic 43, 3) := by decide +kernel
theorem dO_anyChoiceMakes_16 : decode bO_anyChoiceMakes 16 = .ok (.istore 5, 2) := by decide +kernel
theorem dO_anyChoiceMakes_18 : decode bO_anyChoiceMakes 18 = .ok (.iload 5, 2) := by decide +kernel
theorem dO_anyChoiceMakes_20 : decode bO_anyChoiceMakes 20 = .ok (.iload_n 3, 1) := by decide +kernel
theorem dO_anyChoiceMakes_21 : decode bO_anyChoiceMakes 21 = .ok (.aload_n 0, 1) := by decide +kernel
theorem dO_anyChoiceMakes_22 : decode bO_anyChoiceMakes 22 = .ok (.getfield 23, 3) := by decide +kernel
theorem dO_anyChoiceMakes_25 : decode bO_anyChoiceMakes 25 = .ok (.invokestatic 47, 3) := by decide +kernel
theorem dO_anyChoiceMakes_28 : decode bO_anyChoiceMakes 28 = .ok (.iadd, 1) := by decide +kernel
theorem dO_anyChoiceMakes_29 : decode bO_anyChoiceMakes 29 = .ok (.istore 6, 2) := by decide +kernel
theorem dO_anyChoiceMakes_31 : decode bO_anyChoiceMakes 31 = .ok (.iconst 0, 1) := by decide +kernel
theorem dO_anyChoiceMakes_32 : decode bO_anyChoiceMakes 32 = .ok (.istore 7, 2) := by decide +kernel
theorem dO_anyChoiceMakes_34 : decode bO_anyChoiceMakes 34 = .ok (.iload 5, 2) := by decide +kernel
theorem dO_anyChoiceMakes_36 : decode bO_anyChoiceMakes 36 = .ok (.istore 8, 2) := by decide +kernel
theorem dO_anyChoiceMakes_38 : decode bO_anyChoiceMakes 38 = .ok (.iload 8, 2) := by decide +kernel
theorem dO_anyChoiceMakes_40 : decode bO_anyChoiceMakes 40 = .ok (.iload 6, 2) := by decide +kernel
theorem dO_anyChoiceMakes_42 : decode bO_anyChoiceMakes 42 = .ok (.if_icmp .ge 40, 3) := by decide +kernel
theorem dO_anyChoiceMakes_45 : decode bO_anyChoiceMakes 45 = .ok (.iload 7, 2) := by decide +kernel
theorem dO_anyChoiceMakes_47 : decode bO_anyChoiceMakes 47 = .ok (.ifCond .ne 35, 3) := by decide +kernel
theorem dO_anyChoiceMakes_50 : decode bO_anyChoiceMakes 50 = .ok (.aload_n 0, 1) := by decide +kernel
theorem dO_anyChoiceMakes_51 : decode bO_anyChoiceMakes 51 = .ok (.iload_n 3, 1) := by decide +kernel
theorem dO_anyChoiceMakes_52 : decode bO_anyChoiceMakes 52 = .ok (.iload 8, 2) := by decide +kernel
theorem dO_anyChoiceMakes_54 : decode bO_anyChoiceMakes 54 = .ok (.invokevirtual 51, 3) := by decide +kernel
theorem dO_anyChoiceMakes_57 : decode bO_anyChoiceMakes 57 = .ok (.aload_n 0, 1) := by decide +kernel
theorem dO_anyChoiceMakes_58 : decode bO_anyChoiceMakes 58 = .ok (.aload_n 2, 1) := by decide +kernel
theorem dO_anyChoiceMakes_59 : decode bO_anyChoiceMakes 59 = .ok (.getfield 55, 3) := by decide +kernel
theorem dO_anyChoiceMakes_62 : decode bO_anyChoiceMakes 62 = .ok (.invokevirtual 36, 3) := by decide +kernel
theorem dO_anyChoiceMakes_65 : decode bO_anyChoiceMakes 65 = .ok (.iload_n 1, 1) := by decide +kernel
theorem dO_anyChoiceMakes_66 : decode bO_anyChoiceMakes 66 = .ok (.if_icmp .ne 7, 3) := by decide +kernel
theorem dO_anyChoiceMakes_69 : decode bO_anyChoiceMakes 69 = .ok (.iconst 1, 1) := by decide +kernel
theorem dO_anyChoiceMakes_70 : decode bO_anyChoiceMakes 70 = .ok (.goto 4, 3) := by decide +kernel
theorem dO_anyChoiceMakes_73 : decode bO_anyChoiceMakes 73 = .ok (.iconst 0, 1) := by decide +kernel
theorem dO_anyChoiceMakes_74 : decode bO_anyChoiceMakes 74 = .ok (.istore 7, 2) := by decide +kernel
theorem dO_anyChoiceMakes_76 : decode bO_anyChoiceMakes 76 = .ok (.iinc 8 1, 3) := by decide +kernel
theorem dO_anyChoiceMakes_79 : decode bO_anyChoiceMakes 79 = .ok (.goto (-41), 3) := by decide +kernel
theorem dO_anyChoiceMakes_82 : decode bO_anyChoiceMakes 82 = .ok (.aload_n 0, 1) := by decide +kernel
theorem dO_anyChoiceMakes_83 : decode bO_anyChoiceMakes 83 = .ok (.iload_n 3, 1) := by decide +kernel
theorem dO_anyChoiceMakes_84 : decode bO_anyChoiceMakes 84 = .ok (.iload 4, 2) := by decide +kernel
theorem dO_anyChoiceMakes_86 : decode bO_anyChoiceMakes 86 = .ok (.invokevirtual 51, 3) := by decide +kernel
theorem dO_anyChoiceMakes_89 : decode bO_anyChoiceMakes 89 = .ok (.iload 7, 2) := by decide +kernel
theorem dO_anyChoiceMakes_91 : decode bO_anyChoiceMakes 91 = .ok (.ireturn, 1) := by decide +kernel
theorem dO_value_0 : decode bO_value 0 = .ok (.iload_n 1, 1) := by decide +kernel
theorem dO_value_1 : decode bO_value 1 = .ok (.ifCond .lt 21, 3) := by decide +kernel
theorem dO_value_4 : decode bO_value 4 = .ok (.iload_n 1, 1) := by decide +kernel
theorem dO_value_5 : decode bO_value 5 = .ok (.aload_n 0, 1) := by decide +kernel
theorem dO_value_6 : decode bO_value 6 = .ok (.getfield 17, 3) := by decide +kernel
theorem dO_value_9 : decode bO_value 9 = .ok (.arraylength, 1) := by decide +kernel
theorem dO_value_10 : decode bO_value 10 = .ok (.if_icmp .ge 12, 3) := by decide +kernel
theorem dO_value_13 : decode bO_value 13 = .ok (.aload_n 0, 1) := by decide +kernel
theorem dO_value_14 : decode bO_value 14 = .ok (.getfield 17, 3) := by decide +kernel
theorem dO_value_17 : decode bO_value 17 = .ok (.iload_n 1, 1) := by decide +kernel
theorem dO_value_18 : decode bO_value 18 = .ok (.iaload, 1) := by decide +kernel
theorem dO_value_19 : decode bO_value 19 = .ok (.goto 4, 3) := by decide +kernel
theorem dO_value_22 : decode bO_value 22 = .ok (.iconst 0, 1) := by decide +kernel
theorem dO_value_23 : decode bO_value 23 = .ok (.ireturn, 1) := by decide +kernel
theorem dO_firstChoice_0 : decode bO_firstChoice 0 = .ok (.iload_n 0, 1) := by decide +kernel
theorem dO_firstChoice_1 : decode bO_firstChoice 1 = .ok (.iconst 3, 1) := by decide +kernel
theorem dO_firstChoice_2 : decode bO_firstChoice 2 = .ok (.if_icmp .ge 8, 3) := by decide +kernel
theorem dO_firstChoice_5 : decode bO_firstChoice 5 = .ok (.bipush (-8), 2) := by decide +kernel
theorem dO_firstChoice_7 : decode bO_firstChoice 7 = .ok (.goto 4, 3) := by decide +kernel
theorem dO_firstChoice_10 : decode bO_firstChoice 10 = .ok (.iconst 0, 1) := by decide +kernel
theorem dO_firstChoice_11 : decode bO_firstChoice 11 = .ok (.ireturn, 1) := by decide +kernel
theorem dO_choices_0 : decode bO_choices 0 = .ok (.iload_n 0, 1) := by decide +kernel
theorem dO_choices_1 : decode bO_choices 1 = .ok (.iconst 3, 1) := by decide +kernel
theorem dO_choices_2 : decode bO_choices 2 = .ok (.if_icmp .ge 8, 3) := by decide +kernel
theorem dO_choices_5 : decode bO_choices 5 = .ok (.bipush 17, 2) := by decide +kernel
theorem dO_choices_7 : decode bO_choices 7 = .ok (.goto 6, 3) := by decide +kernel
theorem dO_choices_10 : decode bO_choices 10 = .ok (.iconst 1, 1) := by decide +kernel
theorem dO_choices_11 : decode bO_choices 11 = .ok (.iload_n 1, 1) := by decide +kernel
theorem dO_choices_12 : decode bO_choices 12 = .ok (.ishl, 1) := by decide +kernel
theorem dO_choices_13 : decode bO_choices 13 = .ok (.ireturn, 1) := by decide +kernel
theorem dO_bind_0 : decode bO_bind 0 = .ok (.iload_n 1, 1) := by decide +kernel
theorem dO_bind_1 : decode bO_bind 1 = .ok (.ifCond .lt 19, 3) := by decide +kernel
theorem dO_bind_4 : decode bO_bind 4 = .ok (.iload_n 1, 1) := by decide +kernel
theorem dO_bind_5 : decode bO_bind 5 = .ok (.aload_n 0, 1) := by decide +kernel
theorem dO_bind_6 : decode bO_bind 6 = .ok (.getfield 17, 3) := by decide +kernel
theorem dO_bind_9 : decode bO_bind 9 = .ok (.arraylength, 1) := by decide +kernel
theorem dO_bind_10 : decode bO_bind 10 = .ok (.if_icmp .ge 10, 3) := by decide +kernel
theorem dO_bind_13 : decode bO_bind 13 = .ok (.aload_n 0, 1) := by decide +kernel
theorem dO_bind_14 : decode bO_bind 14 = .ok (.getfield 17, 3) := by decide +kernel
theorem dO_bind_17 : decode bO_bind 17 = .ok (.iload_n 1, 1) := by decide +kernel
theorem dO_bind_18 : decode bO_bind 18 = .ok (.iload_n 2, 1) := by decide +kernel
theorem dO_bind_19 : decode bO_bind 19 = .ok (.iastore, 1) := by decide +kernel
theorem dO_bind_20 : decode bO_bind 20 = .ok (.return_, 1) := by decide +kernel
theorem dO_isTrueOfSets_0 : decode bO_isTrueOfSets 0 = .ok (.aload_n 1, 1) := by decide +kernel
theorem dO_isTrueOfSets_1 : decode bO_isTrueOfSets 1 = .ok (.getfield 55, 3) := by decide +kernel
theorem dO_isTrueOfSets_4 : decode bO_isTrueOfSets 4 = .ok (.astore_n 2, 1) := by decide +kernel
theorem dO_isTrueOfSets_5 : decode bO_isTrueOfSets 5 = .ok (.aload_n 2, 1) := by decide +kernel
theorem dO_isTrueOfSets_6 : decode bO_isTrueOfSets 6 = .ok (.ifnonnull 5, 3) := by decide +kernel
theorem dO_isTrueOfSets_9 : decode bO_isTrueOfSets 9 = .ok (.iconst 0, 1) := by decide +kernel
theorem dO_isTrueOfSets_10 : decode bO_isTrueOfSets 10 = .ok (.ireturn, 1) := by decide +kernel
theorem dO_isTrueOfSets_11 : decode bO_isTrueOfSets 11 = .ok (.aload_n 0, 1) := by decide +kernel
theorem dO_isTrueOfSets_12 : decode bO_isTrueOfSets 12 = .ok (.aload_n 2, 1) := by decide +kernel
theorem dO_isTrueOfSets_13 : decode bO_isTrueOfSets 13 = .ok (.invokevirtual 78, 3) := by decide +kernel
theorem dO_isTrueOfSets_16 : decode bO_isTrueOfSets 16 = .ok (.istore_n 3, 1) := by decide +kernel
theorem dO_isTrueOfSets_17 : decode bO_isTrueOfSets 17 = .ok (.aload_n 0, 1) := by decide +kernel
theorem dO_isTrueOfSets_18 : decode bO_isTrueOfSets 18 = .ok (.aload_n 2, 1) := by decide +kernel
theorem dO_isTrueOfSets_19 : decode bO_isTrueOfSets 19 = .ok (.getfield 72, 3) := by decide +kernel
theorem dO_isTrueOfSets_22 : decode bO_isTrueOfSets 22 = .ok (.invokevirtual 78, 3) := by decide +kernel
theorem dO_isTrueOfSets_25 : decode bO_isTrueOfSets 25 = .ok (.istore 4, 2) := by decide +kernel
theorem dO_isTrueOfSets_27 : decode bO_isTrueOfSets 27 = .ok (.aload_n 1, 1) := by decide +kernel
theorem dO_isTrueOfSets_28 : decode bO_isTrueOfSets 28 = .ok (.getfield 30, 3) := by decide +kernel
theorem dO_isTrueOfSets_31 : decode bO_isTrueOfSets 31 = .ok (.bipush 91, 2) := by decide +kernel
theorem dO_isTrueOfSets_33 : decode bO_isTrueOfSets 33 = .ok (.if_icmp .ne 20, 3) := by decide +kernel
theorem dO_isTrueOfSets_36 : decode bO_isTrueOfSets 36 = .ok (.iload_n 3, 1) := by decide +kernel
theorem dO_isTrueOfSets_37 : decode bO_isTrueOfSets 37 = .ok (.iload 4, 2) := by decide +kernel
theorem dO_isTrueOfSets_39 : decode bO_isTrueOfSets 39 = .ok (.iconst (-1), 1) := by decide +kernel
theorem dO_isTrueOfSets_40 : decode bO_isTrueOfSets 40 = .ok (.ixor, 1) := by decide +kernel
theorem dO_isTrueOfSets_41 : decode bO_isTrueOfSets 41 = .ok (.iand, 1) := by decide +kernel
theorem dO_isTrueOfSets_42 : decode bO_isTrueOfSets 42 = .ok (.ifCond .ne 7, 3) := by decide +kernel
theorem dO_isTrueOfSets_45 : decode bO_isTrueOfSets 45 = .ok (.iconst 1, 1) := by decide +kernel
theorem dO_isTrueOfSets_46 : decode bO_isTrueOfSets 46 = .ok (.goto 18, 3) := by decide +kernel
theorem dO_isTrueOfSets_49 : decode bO_isTrueOfSets 49 = .ok (.iconst 0, 1) := by decide +kernel
theorem dO_isTrueOfSets_50 : decode bO_isTrueOfSets 50 = .ok (.goto 14, 3) := by decide +kernel
theorem dO_isTrueOfSets_53 : decode bO_isTrueOfSets 53 = .ok (.iload_n 3, 1) := by decide +kernel
theorem dO_isTrueOfSets_54 : decode bO_isTrueOfSets 54 = .ok (.iload 4, 2) := by decide +kernel
theorem dO_isTrueOfSets_56 : decode bO_isTrueOfSets 56 = .ok (.if_icmp .ne 7, 3) := by decide +kernel
theorem dO_isTrueOfSets_59 : decode bO_isTrueOfSets 59 = .ok (.iconst 1, 1) := by decide +kernel
theorem dO_isTrueOfSets_60 : decode bO_isTrueOfSets 60 = .ok (.goto 4, 3) := by decide +kernel
theorem dO_isTrueOfSets_63 : decode bO_isTrueOfSets 63 = .ok (.iconst 0, 1) := by decide +kernel
theorem dO_isTrueOfSets_64 : decode bO_isTrueOfSets 64 = .ok (.ireturn, 1) := by decide +kernel
theorem dO_elements_0 : decode bO_elements 0 = .ok (.aload_n 1, 1) := by decide +kernel
theorem dO_elements_1 : decode bO_elements 1 = .ok (.ifnonnull 5, 3) := by decide +kernel
theorem dO_elements_4 : decode bO_elements 4 = .ok (.iconst 0, 1) := by decide +kernel
theorem dO_elements_5 : decode bO_elements 5 = .ok (.ireturn, 1) := by decide +kernel
theorem dO_elements_6 : decode bO_elements 6 = .ok (.aload_n 1, 1) := by decide +kernel
theorem dO_elements_7 : decode bO_elements 7 = .ok (.getfield 30, 3) := by decide +kernel
theorem dO_elements_10 : decode bO_elements 10 = .ok (.tableswitch 87 42 49 #[55, 46, 87, 64, 87, 87, 80, 82], 46) := by decide +kernel
theorem dO_elements_56 : decode bO_elements 56 = .ok (.aload_n 0, 1) := by decide +kernel
theorem dO_elements_57 : decode bO_elements 57 = .ok (.aload_n 1, 1) := by decide +kernel
theorem dO_elements_58 : decode bO_elements 58 = .ok (.getfield 55, 3) := by decide +kernel
theorem dO_elements_61 : decode bO_elements 61 = .ok (.invokevirtual 93, 3) := by decide +kernel
theorem dO_elements_64 : decode bO_elements 64 = .ok (.ireturn, 1) := by decide +kernel
theorem dO_elements_65 : decode bO_elements 65 = .ok (.aload_n 0, 1) := by decide +kernel
theorem dO_elements_66 : decode bO_elements 66 = .ok (.aload_n 1, 1) := by decide +kernel
theorem dO_elements_67 : decode bO_elements 67 = .ok (.getfield 55, 3) := by decide +kernel
theorem dO_elements_70 : decode bO_elements 70 = .ok (.invokevirtual 96, 3) := by decide +kernel
theorem dO_elements_73 : decode bO_elements 73 = .ok (.ireturn, 1) := by decide +kernel
theorem dO_elements_74 : decode bO_elements 74 = .ok (.aload_n 0, 1) := by decide +kernel
theorem dO_elements_75 : decode bO_elements 75 = .ok (.getfield 27, 3) := by decide +kernel
theorem dO_elements_78 : decode bO_elements 78 = .ok (.aload_n 0, 1) := by decide +kernel
theorem dO_elements_79 : decode bO_elements 79 = .ok (.aload_n 1, 1) := by decide +kernel
theorem dO_elements_80 : decode bO_elements 80 = .ok (.getfield 55, 3) := by decide +kernel
theorem dO_elements_83 : decode bO_elements 83 = .ok (.invokevirtual 78, 3) := by decide +kernel
theorem dO_elements_86 : decode bO_elements 86 = .ok (.iconst (-1), 1) := by decide +kernel
theorem dO_elements_87 : decode bO_elements 87 = .ok (.ixor, 1) := by decide +kernel
theorem dO_elements_88 : decode bO_elements 88 = .ok (.iand, 1) := by decide +kernel
theorem dO_elements_89 : decode bO_elements 89 = .ok (.ireturn, 1) := by decide +kernel
theorem dO_elements_90 : decode bO_elements 90 = .ok (.iconst 0, 1) := by decide +kernel
theorem dO_elements_91 : decode bO_elements 91 = .ok (.ireturn, 1) := by decide +kernel
theorem dO_elements_92 : decode bO_elements 92 = .ok (.aload_n 0, 1) := by decide +kernel
theorem dO_elements_93 : decode bO_elements 93 = .ok (.getfield 27, 3) := by decide +kernel
theorem dO_elements_96 : decode bO_elements 96 = .ok (.ireturn, 1) := by decide +kernel
theorem dO_elements_97 : decode bO_elements 97 = .ok (.aload_n 0, 1) := by decide +kernel
theorem dO_elements_98 : decode bO_elements 98 = .ok (.aload_n 1, 1) := by decide +kernel
theorem dO_elements_99 : decode bO_elements 99 = .ok (.getfield 40, 3) := by decide +kernel
theorem dO_elements_102 : decode bO_elements 102 = .ok (.invokevirtual 75, 3) := by decide +kernel
theorem dO_elements_105 : decode bO_elements 105 = .ok (.ireturn, 1) := by decide +kernel
theorem dO_union_0 : decode bO_union 0 = .ok (.iconst 0, 1) := by decide +kernel
theorem dO_union_1 : decode bO_union 1 = .ok (.istore_n 2, 1) := by decide +kernel
theorem dO_union_2 : decode bO_union 2 = .ok (.aload_n 1, 1) := by decide +kernel
theorem dO_union_3 : decode bO_union 3 = .ok (.astore_n 3, 1) := by decide +kernel
theorem dO_union_4 : decode bO_union 4 = .ok (.aload_n 3, 1) := by decide +kernel
theorem dO_union_5 : decode bO_union 5 = .ok (.ifnull 19, 3) := by decide +kernel
theorem dO_union_8 : decode bO_union 8 = .ok (.iload_n 2, 1) := by decide +kernel
theorem dO_union_9 : decode bO_union 9 = .ok (.aload_n 0, 1) := by decide +kernel
theorem dO_union_10 : decode bO_union 10 = .ok (.aload_n 3, 1) := by decide +kernel
theorem dO_union_11 : decode bO_union 11 = .ok (.invokevirtual 78, 3) := by decide +kernel
theorem dO_union_14 : decode bO_union 14 = .ok (.ior, 1) := by decide +kernel
theorem dO_union_15 : decode bO_union 15 = .ok (.istore_n 2, 1) := by decide +kernel
theorem dO_union_16 : decode bO_union 16 = .ok (.aload_n 3, 1) := by decide +kernel
theorem dO_union_17 : decode bO_union 17 = .ok (.getfield 72, 3) := by decide +kernel
theorem dO_union_20 : decode bO_union 20 = .ok (.astore_n 3, 1) := by decide +kernel
theorem dO_union_21 : decode bO_union 21 = .ok (.goto (-17), 3) := by decide +kernel
theorem dO_union_24 : decode bO_union 24 = .ok (.iload_n 2, 1) := by decide +kernel
theorem dO_union_25 : decode bO_union 25 = .ok (.ireturn, 1) := by decide +kernel
theorem dO_meet_0 : decode bO_meet 0 = .ok (.aload_n 0, 1) := by decide +kernel
theorem dO_meet_1 : decode bO_meet 1 = .ok (.getfield 27, 3) := by decide +kernel
theorem dO_meet_4 : decode bO_meet 4 = .ok (.istore_n 2, 1) := by decide +kernel
theorem dO_meet_5 : decode bO_meet 5 = .ok (.aload_n 1, 1) := by decide +kernel
theorem dO_meet_6 : decode bO_meet 6 = .ok (.astore_n 3, 1) := by decide +kernel
theorem dO_meet_7 : decode bO_meet 7 = .ok (.aload_n 3, 1) := by decide +kernel
theorem dO_meet_8 : decode bO_meet 8 = .ok (.ifnull 19, 3) := by decide +kernel
theorem dO_meet_11 : decode bO_meet 11 = .ok (.iload_n 2, 1) := by decide +kernel
theorem dO_meet_12 : decode bO_meet 12 = .ok (.aload_n 0, 1) := by decide +kernel
theorem dO_meet_13 : decode bO_meet 13 = .ok (.aload_n 3, 1) := by decide +kernel
theorem dO_meet_14 : decode bO_meet 14 = .ok (.invokevirtual 78, 3) := by decide +kernel
theorem dO_meet_17 : decode bO_meet 17 = .ok (.iand, 1) := by decide +kernel
theorem dO_meet_18 : decode bO_meet 18 = .ok (.istore_n 2, 1) := by decide +kernel
theorem dO_meet_19 : decode bO_meet 19 = .ok (.aload_n 3, 1) := by decide +kernel
theorem dO_meet_20 : decode bO_meet 20 = .ok (.getfield 72, 3) := by decide +kernel
theorem dO_meet_23 : decode bO_meet 23 = .ok (.astore_n 3, 1) := by decide +kernel
theorem dO_meet_24 : decode bO_meet 24 = .ok (.goto (-17), 3) := by decide +kernel
theorem dO_meet_27 : decode bO_meet 27 = .ok (.iload_n 2, 1) := by decide +kernel
theorem dO_meet_28 : decode bO_meet 28 = .ok (.ireturn, 1) := by decide +kernel
theorem dO_isTrueOfSum_0 : decode bO_isTrueOfSum 0 = .ok (.iconst 0, 1) := by decide +kernel
theorem dO_isTrueOfSum_1 : decode bO_isTrueOfSum 1 = .ok (.istore_n 2, 1) := by decide +kernel
theorem dO_isTrueOfSum_2 : decode bO_isTrueOfSum 2 = .ok (.aload_n 1, 1) := by decide +kernel
theorem dO_isTrueOfSum_3 : decode bO_isTrueOfSum 3 = .ok (.getfield 55, 3) := by decide +kernel
theorem dO_isTrueOfSum_6 : decode bO_isTrueOfSum 6 = .ok (.astore_n 3, 1) := by decide +kernel
theorem dO_isTrueOfSum_7 : decode bO_isTrueOfSum 7 = .ok (.aload_n 3, 1) := by decide +kernel
theorem dO_isTrueOfSum_8 : decode bO_isTrueOfSum 8 = .ok (.ifnull 24, 3) := by decide +kernel
theorem dO_isTrueOfSum_11 : decode bO_isTrueOfSum 11 = .ok (.iload_n 2, 1) := by decide +kernel
theorem dO_isTrueOfSum_12 : decode bO_isTrueOfSum 12 = .ok (.aload_n 3, 1) := by decide +kernel
theorem dO_isTrueOfSum_13 : decode bO_isTrueOfSum 13 = .ok (.getfield 82, 3) := by decide +kernel
theorem dO_isTrueOfSum_16 : decode bO_isTrueOfSum 16 = .ok (.aload_n 0, 1) := by decide +kernel
theorem dO_isTrueOfSum_17 : decode bO_isTrueOfSum 17 = .ok (.aload_n 3, 1) := by decide +kernel
theorem dO_isTrueOfSum_18 : decode bO_isTrueOfSum 18 = .ok (.invokevirtual 85, 3) := by decide +kernel
theorem dO_isTrueOfSum_21 : decode bO_isTrueOfSum 21 = .ok (.imul, 1) := by decide +kernel
theorem dO_isTrueOfSum_22 : decode bO_isTrueOfSum 22 = .ok (.iadd, 1) := by decide +kernel
theorem dO_isTrueOfSum_23 : decode bO_isTrueOfSum 23 = .ok (.istore_n 2, 1) := by decide +kernel
theorem dO_isTrueOfSum_24 : decode bO_isTrueOfSum 24 = .ok (.aload_n 3, 1) := by decide +kernel
theorem dO_isTrueOfSum_25 : decode bO_isTrueOfSum 25 = .ok (.getfield 72, 3) := by decide +kernel
theorem dO_isTrueOfSum_28 : decode bO_isTrueOfSum 28 = .ok (.astore_n 3, 1) := by decide +kernel
theorem dO_isTrueOfSum_29 : decode bO_isTrueOfSum 29 = .ok (.goto (-22), 3) := by decide +kernel
theorem dO_isTrueOfSum_32 : decode bO_isTrueOfSum 32 = .ok (.aload_n 1, 1) := by decide +kernel
theorem dO_isTrueOfSum_33 : decode bO_isTrueOfSum 33 = .ok (.getfield 30, 3) := by decide +kernel
theorem dO_isTrueOfSum_36 : decode bO_isTrueOfSum 36 = .ok (.lookupswitch 48 #[(60, 28), (61, 38)], 28) := by decide +kernel
theorem dO_isTrueOfSum_64 : decode bO_isTrueOfSum 64 = .ok (.iload_n 2, 1) := by decide +kernel
theorem dO_isTrueOfSum_65 : decode bO_isTrueOfSum 65 = .ok (.ifCond .ge 7, 3) := by decide +kernel
theorem dO_isTrueOfSum_68 : decode bO_isTrueOfSum 68 = .ok (.iconst 1, 1) := by decide +kernel
theorem dO_isTrueOfSum_69 : decode bO_isTrueOfSum 69 = .ok (.goto 4, 3) := by decide +kernel
theorem dO_isTrueOfSum_72 : decode bO_isTrueOfSum 72 = .ok (.iconst 0, 1) := by decide +kernel
theorem dO_isTrueOfSum_73 : decode bO_isTrueOfSum 73 = .ok (.ireturn, 1) := by decide +kernel
theorem dO_isTrueOfSum_74 : decode bO_isTrueOfSum 74 = .ok (.iload_n 2, 1) := by decide +kernel
theorem dO_isTrueOfSum_75 : decode bO_isTrueOfSum 75 = .ok (.ifCond .ne 7, 3) := by decide +kernel
theorem dO_isTrueOfSum_78 : decode bO_isTrueOfSum 78 = .ok (.iconst 1, 1) := by decide +kernel
theorem dO_isTrueOfSum_79 : decode bO_isTrueOfSum 79 = .ok (.goto 4, 3) := by decide +kernel
theorem dO_isTrueOfSum_82 : decode bO_isTrueOfSum 82 = .ok (.iconst 0, 1) := by decide +kernel
theorem dO_isTrueOfSum_83 : decode bO_isTrueOfSum 83 = .ok (.ireturn, 1) := by decide +kernel
theorem dO_isTrueOfSum_84 : decode bO_isTrueOfSum 84 = .ok (.aload_n 1, 1) := by decide +kernel
theorem dO_isTrueOfSum_85 : decode bO_isTrueOfSum 85 = .ok (.getfield 82, 3) := by decide +kernel
theorem dO_isTrueOfSum_88 : decode bO_isTrueOfSum 88 = .ok (.ifCond .eq 16, 3) := by decide +kernel
theorem dO_isTrueOfSum_91 : decode bO_isTrueOfSum 91 = .ok (.iload_n 2, 1) := by decide +kernel
theorem dO_isTrueOfSum_92 : decode bO_isTrueOfSum 92 = .ok (.aload_n 1, 1) := by decide +kernel
theorem dO_isTrueOfSum_93 : decode bO_isTrueOfSum 93 = .ok (.getfield 82, 3) := by decide +kernel
theorem dO_isTrueOfSum_96 : decode bO_isTrueOfSum 96 = .ok (.irem, 1) := by decide +kernel
theorem dO_isTrueOfSum_97 : decode bO_isTrueOfSum 97 = .ok (.ifCond .ne 7, 3) := by decide +kernel
theorem dO_isTrueOfSum_100 : decode bO_isTrueOfSum 100 = .ok (.iconst 1, 1) := by decide +kernel
theorem dO_isTrueOfSum_101 : decode bO_isTrueOfSum 101 = .ok (.goto 4, 3) := by decide +kernel
theorem dO_isTrueOfSum_104 : decode bO_isTrueOfSum 104 = .ok (.iconst 0, 1) := by decide +kernel
theorem dO_isTrueOfSum_105 : decode bO_isTrueOfSum 105 = .ok (.ireturn, 1) := by decide +kernel
theorem dO_amount_0 : decode bO_amount 0 = .ok (.aload_n 1, 1) := by decide +kernel
theorem dO_amount_1 : decode bO_amount 1 = .ok (.getfield 30, 3) := by decide +kernel
theorem dO_amount_4 : decode bO_amount 4 = .ok (.lookupswitch 55 #[(35, 43), (49, 36), (110, 38)], 36) := by decide +kernel
theorem dO_amount_40 : decode bO_amount 40 = .ok (.iconst 1, 1) := by decide +kernel
theorem dO_amount_41 : decode bO_amount 41 = .ok (.ireturn, 1) := by decide +kernel
theorem dO_amount_42 : decode bO_amount 42 = .ok (.aload_n 0, 1) := by decide +kernel
theorem dO_amount_43 : decode bO_amount 43 = .ok (.getfield 23, 3) := by decide +kernel
theorem dO_amount_46 : decode bO_amount 46 = .ok (.ireturn, 1) := by decide +kernel
theorem dO_amount_47 : decode bO_amount 47 = .ok (.aload_n 0, 1) := by decide +kernel
theorem dO_amount_48 : decode bO_amount 48 = .ok (.aload_n 1, 1) := by decide +kernel
theorem dO_amount_49 : decode bO_amount 49 = .ok (.getfield 55, 3) := by decide +kernel
theorem dO_amount_52 : decode bO_amount 52 = .ok (.invokevirtual 78, 3) := by decide +kernel
theorem dO_amount_55 : decode bO_amount 55 = .ok (.invokestatic 88, 3) := by decide +kernel
theorem dO_amount_58 : decode bO_amount 58 = .ok (.ireturn, 1) := by decide +kernel
theorem dO_amount_59 : decode bO_amount 59 = .ok (.aload_n 0, 1) := by decide +kernel
theorem dO_amount_60 : decode bO_amount 60 = .ok (.aload_n 1, 1) := by decide +kernel
theorem dO_amount_61 : decode bO_amount 61 = .ok (.getfield 40, 3) := by decide +kernel
theorem dO_amount_64 : decode bO_amount 64 = .ok (.invokevirtual 75, 3) := by decide +kernel
theorem dO_amount_67 : decode bO_amount 67 = .ok (.ireturn, 1) := by decide +kernel
theorem dI_bitCount_0 : decode bI_bitCount 0 = .ok (.iload_n 0, 1) := by decide +kernel
theorem dI_bitCount_1 : decode bI_bitCount 1 = .ok (.iload_n 0, 1) := by decide +kernel
theorem dI_bitCount_2 : decode bI_bitCount 2 = .ok (.iconst 1, 1) := by decide +kernel
theorem dI_bitCount_3 : decode bI_bitCount 3 = .ok (.iushr, 1) := by decide +kernel
theorem dI_bitCount_4 : decode bI_bitCount 4 = .ok (.ldc_w 265, 3) := by decide +kernel
theorem dI_bitCount_7 : decode bI_bitCount 7 = .ok (.iand, 1) := by decide +kernel
theorem dI_bitCount_8 : decode bI_bitCount 8 = .ok (.isub, 1) := by decide +kernel
theorem dI_bitCount_9 : decode bI_bitCount 9 = .ok (.istore_n 0, 1) := by decide +kernel
theorem dI_bitCount_10 : decode bI_bitCount 10 = .ok (.iload_n 0, 1) := by decide +kernel
theorem dI_bitCount_11 : decode bI_bitCount 11 = .ok (.ldc_w 266, 3) := by decide +kernel
theorem dI_bitCount_14 : decode bI_bitCount 14 = .ok (.iand, 1) := by decide +kernel
theorem dI_bitCount_15 : decode bI_bitCount 15 = .ok (.iload_n 0, 1) := by decide +kernel
theorem dI_bitCount_16 : decode bI_bitCount 16 = .ok (.iconst 2, 1) := by decide +kernel
theorem dI_bitCount_17 : decode bI_bitCount 17 = .ok (.iushr, 1) := by decide +kernel
theorem dI_bitCount_18 : decode bI_bitCount 18 = .ok (.ldc_w 266, 3) := by decide +kernel
theorem dI_bitCount_21 : decode bI_bitCount 21 = .ok (.iand, 1) := by decide +kernel
theorem dI_bitCount_22 : decode bI_bitCount 22 = .ok (.iadd, 1) := by decide +kernel
theorem dI_bitCount_23 : decode bI_bitCount 23 = .ok (.istore_n 0, 1) := by decide +kernel
theorem dI_bitCount_24 : decode bI_bitCount 24 = .ok (.iload_n 0, 1) := by decide +kernel
theorem dI_bitCount_25 : decode bI_bitCount 25 = .ok (.iload_n 0, 1) := by decide +kernel
theorem dI_bitCount_26 : decode bI_bitCount 26 = .ok (.iconst 4, 1) := by decide +kernel
theorem dI_bitCount_27 : decode bI_bitCount 27 = .ok (.iushr, 1) := by decide +kernel
theorem dI_bitCount_28 : decode bI_bitCount 28 = .ok (.iadd, 1) := by decide +kernel
theorem dI_bitCount_29 : decode bI_bitCount 29 = .ok (.ldc_w 267, 3) := by decide +kernel
theorem dI_bitCount_32 : decode bI_bitCount 32 = .ok (.iand, 1) := by decide +kernel
theorem dI_bitCount_33 : decode bI_bitCount 33 = .ok (.istore_n 0, 1) := by decide +kernel
theorem dI_bitCount_34 : decode bI_bitCount 34 = .ok (.iload_n 0, 1) := by decide +kernel
theorem dI_bitCount_35 : decode bI_bitCount 35 = .ok (.iload_n 0, 1) := by decide +kernel
theorem dI_bitCount_36 : decode bI_bitCount 36 = .ok (.bipush 8, 2) := by decide +kernel
theorem dI_bitCount_38 : decode bI_bitCount 38 = .ok (.iushr, 1) := by decide +kernel
theorem dI_bitCount_39 : decode bI_bitCount 39 = .ok (.iadd, 1) := by decide +kernel
theorem dI_bitCount_40 : decode bI_bitCount 40 = .ok (.istore_n 0, 1) := by decide +kernel
theorem dI_bitCount_41 : decode bI_bitCount 41 = .ok (.iload_n 0, 1) := by decide +kernel
theorem dI_bitCount_42 : decode bI_bitCount 42 = .ok (.iload_n 0, 1) := by decide +kernel
theorem dI_bitCount_43 : decode bI_bitCount 43 = .ok (.bipush 16, 2) := by decide +kernel
theorem dI_bitCount_45 : decode bI_bitCount 45 = .ok (.iushr, 1) := by decide +kernel
theorem dI_bitCount_46 : decode bI_bitCount 46 = .ok (.iadd, 1) := by decide +kernel
theorem dI_bitCount_47 : decode bI_bitCount 47 = .ok (.istore_n 0, 1) := by decide +kernel
theorem dI_bitCount_48 : decode bI_bitCount 48 = .ok (.iload_n 0, 1) := by decide +kernel
theorem dI_bitCount_49 : decode bI_bitCount 49 = .ok (.bipush 63, 2) := by decide +kernel
theorem dI_bitCount_51 : decode bI_bitCount 51 = .ok (.iand, 1) := by decide +kernel
theorem dI_bitCount_52 : decode bI_bitCount 52 = .ok (.ireturn, 1) := by decide +kernel
section
variable {p : Program} {l : Launch} {e : Env} {R : Room} {s : State} {m : MethodId} {args : Array Value} {below : List Frame} {meth : Method} {c : Code} {G : Gx} {M0 M' : Mem} {r : Option Value ⊕ Nat} {d : Nat} {C : Cx}

def fO_init_0 (n d : Nat) (C : Cx) (a0 : Nat) (M : Mem) : Rz := if (mC M 1) = mC M 1 then (rzC (C 2 [.ref (mC M 1)] M) fun v_1 M_2 => (rzI v_1 fun x_6 => (if ¬ x_6 < 0 then (if x_6.toNatClampNeg ≤ 1000 then (if mS M_2 + 1 ≤ mC M_2 0 then (if mU M_2 + x_6.toNatClampNeg ≤ SLm then (rzM (newC M_2 21 (x_6.toNatClampNeg) (x_6.toNatClampNeg)) fun M_11 => (if mK M_11 a0 = 3 then (rzM (setP M_11 a0 2 (some (mS M_2))) fun M_15 => (some (.inl none, M_15))) else none)) else none) else none) else none) else none))) else none
set_option maxRecDepth 100000 in
set_option maxHeartbeats 4000000 in
theorem tO_init_0 {n : Nat} (F : FX p s m meth c G R M0 d "HeadCount$World" bO_init 1 none) (hin : meth.name = "<init>") (hC : CBs l G d C) : ∀ (a0 : Nat) (M : Mem) (H : Heap) (locs : List Loc) (cells slots : Nat) (ls : Array Slot), fO_init_0 n d C a0 M = some (r, M') → RL G M0 M H locs cells slots → lv_has ls 1 [(0, .ref a0)] → W p l e R s m args below meth c H locs cells slots (CQ G below s M0 r M') (F0 m 0 ls []) := by
  obtain ⟨hx, hb, hml, hown, hrt, hlk, hex, hK, hRm⟩ := id F
  intro a0 M H locs cells slots ls h hR hl
  unfold fO_init_0 at h
  refine lv_aload_n hx hb dO_init_0 rfl (lv_at hl 0 rfl) ?_
  refine W.objInit hx hb hown (hK.w kl_O_3 rfl args) (hK.w oi1 rfl args) (hK.w oi2 rfl args) rfl (hl.1.trans hml.symm) rfl dO_init_1 (Nat.le_trans (Nat.le_add_left 1 d) hRm.1) (by have := hRm.2.1; simp [cat_rf, cat_i, cat_a, cat_l, cat_n]; omega) ?_
  refine lv_aload_n hx hb dO_init_4 rfl (lv_at hl 0 rfl) ?_
  have hcc := hR.2.2.2.2.1
  refine va_ldcS (q := mC M 1) hx hb hown (by rw [hcc]; exact hK.2.2.2.1.2.1) dO_init_5 ?_
  obtain ⟨c_5, h⟩ := rz_chk h
  obtain ⟨q_4, M_2, h_3, h⟩ := rz_c h
  refine rc_VS (rest := [.ref a0]) (As := []) hx hb (hl.1.trans hml.symm) hown hK hR hRm mfS_length kl_O_11 rfl rfl c_5 (by simp [cat_rf, cat_i, cat_a, cat_l, cat_n]) (hC 2 _ _ _ _ h_3) dO_init_7 (fun v1 H locs cells slots ev hR => ?_) (fun x1 q1 ce1 H locs cells slots ex hR g1 g2 g3 => ?_)
  · rcases h with ⟨v_1, ev2, h⟩ | ⟨e2, ee2, -⟩
    · cases ev.symm.trans ev2
      replace h := rz_i h
      obtain ⟨x_6, rfl, h⟩ := h
      dsimp only [Option.toList, List.cons_append, List.nil_append]
      obtain ⟨c_7, h⟩ := rz_chk h
      obtain ⟨c_8, h⟩ := rz_chk h
      obtain ⟨c_9, h⟩ := rz_chk h
      obtain ⟨c_10, h⟩ := rz_chk h
      obtain ⟨M_11, q_12, h⟩ := rz_m h
      have hR0 := hR
      refine rg_newa (kd := 21) (atype := .int) (ty := .int) hx hb hK hR hRm rfl (by decide) ka_int c_7 c_8 c_9 c_10 dO_init_10 (fun H hR => ?_)
      rw [← q_12] at hR
      have c_13 : mK M_11 (mS M_2) = 21 := by rw [q_12, mK_newC, va_up_self]
      obtain ⟨c_14, h⟩ := rz_chk h
      obtain ⟨M_15, q_16, h⟩ := rz_m h
      refine rg_putF (r := some (mS M_2)) hx hb hown hK hR hk_O 2 (by decide) kf_O_17 rfl hin rfl rfl (ty := .array .int) (by decide +kernel) (Or.inr ⟨_, rfl⟩) c_14 dO_init_12 (fun H locs hR => ?_)
      rw [← q_16] at hR
      have c_17 : mK M_15 (mS M_2) = 21 := by rw [q_16]; exact c_13
      have c_18 : mK M_15 a0 = 3 := by rw [q_16]; exact c_14
      cases h
      exact rt_v hx hb hlk hrt hR dO_init_15
    · cases ev.symm.trans ee2
  · rcases h with ⟨v2, ev2, -⟩ | ⟨e2, ee2, h⟩
    · cases ex.symm.trans ev2
    · cases ex.symm.trans ee2
      cases h
      exact rt_x hlk hex hR g1 g2 g3
set_option maxRecDepth 100000 in
set_option maxHeartbeats 4000000 in
theorem sO_init {l : Launch} {G : Gx} {n d : Nat} {C : Cx} (hC : CBs l G d C) (a0 : Nat) {M M' : Mem} {r : Option Value ⊕ Nat} (h : fO_init_0 n d C a0 M = some (r, M')) : CB l G (d + 1) yO_init [.ref a0] M r M' := by
  intro p e R s m below meth c hx hn hm hc hlk hK hR hcap hS hU hfr hlo hrc hrs
  obtain ⟨hb, hml, hrt, hex, hown⟩ := fx_of hn hm hc (hK.w mfO_init.2.2.1 rfl #[])
  have F : FX p s m meth c G R M d "HeadCount$World" bO_init 1 none := ⟨hx, hb, hml, hown, hrt, hlk, hex, hK, hfr, hlo, by rw [← hcap]; exact hrc, hrs⟩
  rw [hml]
  have hl := lv_entry ([.ref a0]) (n := 1) (by simp [lg_sl, cat_rf, cat_i, cat_a, cat_l, cat_n])
  rw [lg_entry_eq]
  generalize (lg_sl ([.ref a0]) ++ List.replicate (1 - (lg_sl ([.ref a0])).length) Slot.unset).toArray = ls at hl ⊢
  have hl : lv_has ls 1 [(0, .ref a0)] := by simpa [lv_args, cat_rf, cat_i, cat_a, cat_l, cat_n] using hl
  exact tO_init_0 F (name_of_methodNamed hn hm).1 hC a0 _ _ _ _ _ _ h (RL.start hR hcap hS hU) (lv_sub hl [0] rfl)
def fO_count_45 (n d : Nat) (C : Cx) (xs0 : Int32) (M : Mem) : Rz := some (.inl (some (.int xs0)), M)
set_option maxRecDepth 100000 in
set_option maxHeartbeats 4000000 in
theorem tO_count_45 {n : Nat} (F : FX p s m meth c G R M0 d "HeadCount$World" bO_count 7 (some .int)) (hC : CBs l G d C) : ∀ (xs0 : Int32) (M : Mem) (H : Heap) (locs : List Loc) (cells slots : Nat) (ls : Array Slot), fO_count_45 n d C xs0 M = some (r, M') → RL G M0 M H locs cells slots → lv_has ls 7 [] → W p l e R s m args below meth c H locs cells slots (CQ G below s M0 r M') (F0 m 45 ls [.int xs0]) := by
  obtain ⟨hx, hb, hml, hown, hrt, hlk, hex, hK, hRm⟩ := id F
  intro xs0 M H locs cells slots ls h hR hl
  unfold fO_count_45 at h
  cases h
  exact rt_i hx hb hlk hrt (Or.inl rfl) rfl hR dO_count_45
def fO_count_105 (n d : Nat) (C : Cx) (k74 : Nat → Option Nat → Int32 → Int32 → Int32 → Mem → Rz) (a0 : Nat) (r1 : Option Nat) (x3 : Int32) (x5 : Int32) (x6 : Int32) (M : Mem) : Rz := k74 a0 r1 x3 x5 (x6 + 1) M
set_option maxRecDepth 100000 in
set_option maxHeartbeats 4000000 in
theorem tO_count_105 {n : Nat} {k74 : Nat → Option Nat → Int32 → Int32 → Int32 → Mem → Rz} (F : FX p s m meth c G R M0 d "HeadCount$World" bO_count 7 (some .int)) (hC : CBs l G d C) (hk74 : ∀ (a0 : Nat) (r1 : Option Nat) (x3 : Int32) (x5 : Int32) (x6 : Int32) (M : Mem) (H : Heap) (locs : List Loc) (cells slots : Nat) (ls : Array Slot), k74 a0 r1 x3 x5 x6 M = some (r, M') → RL G M0 M H locs cells slots → lv_has ls 7 [(0, .ref a0), (1, va_rf r1), (3, .int x3), (5, .int x5), (6, .int x6)] → W p l e R s m args below meth c H locs cells slots (CQ G below s M0 r M') (F0 m 74 ls [])) : ∀ (a0 : Nat) (r1 : Option Nat) (x3 : Int32) (x5 : Int32) (x6 : Int32) (M : Mem) (H : Heap) (locs : List Loc) (cells slots : Nat) (ls : Array Slot), fO_count_105 n d C k74 a0 r1 x3 x5 x6 M = some (r, M') → RL G M0 M H locs cells slots → lv_has ls 7 [(0, .ref a0), (1, va_rf r1), (3, .int x3), (5, .int x5), (6, .int x6)] → W p l e R s m args below meth c H locs cells slots (CQ G below s M0 r M') (F0 m 105 ls []) := by
  obtain ⟨hx, hb, hml, hown, hrt, hlk, hex, hK, hRm⟩ := id F
  intro a0 r1 x3 x5 x6 M H locs cells slots ls h hR hl
  unfold fO_count_105 at h
  refine lv_iinc (k := 4) (v := x6 + 1) (lv' := [(6, .int (x6 + 1)), (0, .ref a0), (1, va_rf r1), (3, .int x3), (5, .int x5)]) hx hb dO_count_105 hl rfl (by rw [show Int32.ofInt 1 = 1 from by decide]) (by decide) rfl (fun ls hl => ?_)
  refine lv_goto (tgt := 74) hx hb dO_count_108 (by decide) ?_
  exact hk74 a0 r1 x3 x5 (x6 + 1) _ _ _ _ _ _ h hR (lv_sub hl [1, 2, 3, 4, 0] rfl)
def fO_count_74 (n d : Nat) (C : Cx) : Nat → Nat → Option Nat → Int32 → Int32 → Int32 → Mem → Rz
  | 0, _, _, _, _, _, _ => none
  | w + 1, a0, r1, x3, x5, x6, M => if x5 ≤ x6 then (some (.inl (some (.int x3)), M)) else (rzD r1 fun a_2 => (if mK M a_2 = 4 then (if mK M a0 = 3 then (rzC (C 55 [.ref a0, .int (mI M a_2 2), .int x6] M) fun v_6 M_7 => (rzV v_6 (rzD r1 fun a_10 => (if mK M_7 a_10 = 4 then (if mK M_7 a0 = 3 then (rzC (C 49 [.ref a0, va_rf (mP M_7 a_10 3)] M_7) fun v_14 M_15 => (rzI v_14 fun x_18 => (if x_18 = 0 then (fO_count_105 n d C (fO_count_74 n d C w) a0 r1 x3 x5 x6 M_15) else (fO_count_105 n d C (fO_count_74 n d C w) a0 r1 (x3 + 1) x5 x6 M_15)))) else none) else none)))) else none) else none))
set_option maxRecDepth 100000 in
set_option maxHeartbeats 4000000 in
theorem tO_count_74 {n : Nat} (F : FX p s m meth c G R M0 d "HeadCount$World" bO_count 7 (some .int)) (hC : CBs l G d C) : ∀ (w : Nat) (a0 : Nat) (r1 : Option Nat) (x3 : Int32) (x5 : Int32) (x6 : Int32) (M : Mem) (H : Heap) (locs : List Loc) (cells slots : Nat) (ls : Array Slot), fO_count_74 n d C w a0 r1 x3 x5 x6 M = some (r, M') → RL G M0 M H locs cells slots → lv_has ls 7 [(0, .ref a0), (1, va_rf r1), (3, .int x3), (5, .int x5), (6, .int x6)] → W p l e R s m args below meth c H locs cells slots (CQ G below s M0 r M') (F0 m 74 ls []) := by
  obtain ⟨hx, hb, hml, hown, hrt, hlk, hex, hK, hRm⟩ := id F
  intro w
  induction w with
  | zero => intro a0 r1 x3 x5 x6 M H locs cells slots ls h; cases h
  | succ w ih =>
    intro a0 r1 x3 x5 x6 M H locs cells slots ls h hR hl
    rw [fO_count_74] at h
    refine lv_iload hx hb dO_count_74 (lv_at hl 4 rfl) ?_
    refine lv_iload hx hb dO_count_76 (lv_at hl 3 rfl) ?_
    refine lv_icmp_ge (tgt := 111) hx hb dO_count_78 (by decide) (fun c_1 => ?_) (fun c_1 => ?_)
    · replace h := rz_t c_1 h
      refine lv_iload_n hx hb dO_count_111 rfl (lv_at hl 2 rfl) ?_
      cases h
      exact rt_i hx hb hlk hrt (Or.inl rfl) rfl hR dO_count_112
    · replace h := rz_f c_1 h
      refine lv_aload_n hx hb dO_count_81 rfl (lv_at hl 0 rfl) ?_
      refine lr_aload_n hx hb dO_count_82 rfl (lv_at hl 1 rfl) ?_
      obtain ⟨a_2, e_3, h⟩ := rz_d h
      rw [e_3]
      obtain ⟨c_4, h⟩ := rz_chk h
      refine rg_getI hx hb hown hK hR hk_N 2 (by decide) kf_O_40 rfl c_4 dO_count_83 ?_
      refine lv_iload hx hb dO_count_86 (lv_at hl 4 rfl) ?_
      obtain ⟨c_5, h⟩ := rz_chk h
      obtain ⟨q_9, M_7, h_8, h⟩ := rz_c h
      refine rc_V (rest := []) (As := [.int (mI M a_2 2), .int x6]) hx hb (hl.1.trans hml.symm) hown hK hR hRm mfO_bind kl_O_51 hk_O rfl rfl c_5 (by simp [cat_rf, cat_i, cat_a, cat_l, cat_n]) (hC 55 _ _ _ _ h_8) dO_count_88 (fun v1 H locs cells slots ev hR => ?_) (fun x1 q1 ce1 H locs cells slots ex hR g1 g2 g3 => ?_)
      · rcases h with ⟨v_6, ev2, h⟩ | ⟨e2, ee2, -⟩
        · cases ev.symm.trans ev2
          replace h := rz_v h
          obtain ⟨rfl, h⟩ := h
          dsimp only [Option.toList, List.cons_append, List.nil_append]
          refine lv_aload_n hx hb dO_count_91 rfl (lv_at hl 0 rfl) ?_
          refine lr_aload_n hx hb dO_count_92 rfl (lv_at hl 1 rfl) ?_
          obtain ⟨a_10, e_11, h⟩ := rz_d h
          rw [e_11]
          obtain ⟨c_12, h⟩ := rz_chk h
          refine rg_getP hx hb hown hK hR hk_N 3 (by decide) kf_O_55 rfl c_12 dO_count_93 ?_
          obtain ⟨c_13, h⟩ := rz_chk h
          obtain ⟨q_17, M_15, h_16, h⟩ := rz_c h
          refine rc_V (rest := []) (As := [va_rf (mP M_7 a_10 3)]) hx hb (hl.1.trans hml.symm) hown hK hR hRm mfO_isTrue kl_O_36 hk_O rfl rfl c_13 (by simp [cat_rf, cat_i, cat_a, cat_l, cat_n]) (hC 49 _ _ _ _ h_16) dO_count_96 (fun v1 H locs cells slots ev hR => ?_) (fun x1 q1 ce1 H locs cells slots ex hR g1 g2 g3 => ?_)
          · rcases h with ⟨v_14, ev2, h⟩ | ⟨e2, ee2, -⟩
            · cases ev.symm.trans ev2
              replace h := rz_i h
              obtain ⟨x_18, rfl, h⟩ := h
              dsimp only [Option.toList, List.cons_append, List.nil_append]
              refine lv_if_eq (tgt := 105) hx hb dO_count_99 (by decide) (fun c_19 => ?_) (fun c_19 => ?_)
              · replace h := rz_t c_19 h
                exact tO_count_105 F hC ih a0 r1 x3 x5 x6 _ _ _ _ _ _ h hR (lv_sub hl [0, 1, 2, 3, 4] rfl)
              · replace h := rz_f c_19 h
                refine lv_iinc (k := 2) (v := x3 + 1) (lv' := [(3, .int (x3 + 1)), (0, .ref a0), (1, va_rf r1), (5, .int x5), (6, .int x6)]) hx hb dO_count_102 hl rfl (by rw [show Int32.ofInt 1 = 1 from by decide]) (by decide) rfl (fun ls hl => ?_)
                exact tO_count_105 F hC ih a0 r1 (x3 + 1) x5 x6 _ _ _ _ _ _ h hR (lv_sub hl [1, 2, 0, 3, 4] rfl)
            · cases ev.symm.trans ee2
          · rcases h with ⟨v2, ev2, -⟩ | ⟨e2, ee2, h⟩
            · cases ex.symm.trans ev2
            · cases ex.symm.trans ee2
              cases h
              exact rt_x hlk hex hR g1 g2 g3
        · cases ev.symm.trans ee2
      · rcases h with ⟨v2, ev2, -⟩ | ⟨e2, ee2, h⟩
        · cases ex.symm.trans ev2
        · cases ex.symm.trans ee2
          cases h
          exact rt_x hlk hex hR g1 g2 g3
def fO_count_46 (n d : Nat) (C : Cx) (a0 : Nat) (r1 : Option Nat) (x2 : Int32) (M : Mem) : Rz := rzD r1 fun a_1 => (if mK M a_1 = 4 then (rzC (C 53 [.int (mI M a_1 2)] M) fun v_4 M_5 => (rzI v_4 fun x_8 => (rzD r1 fun a_9 => (if mK M_5 a_9 = 4 then (rzC (C 54 [.int (mI M_5 a_9 2), .int x2] M_5) fun v_12 M_13 => (rzI v_12 fun x_16 => (fO_count_74 n d C n a0 r1 0 (x_8 + x_16) x_8 M_13))) else none)))) else none)
set_option maxRecDepth 100000 in
set_option maxHeartbeats 4000000 in
theorem tO_count_46 {n : Nat} (F : FX p s m meth c G R M0 d "HeadCount$World" bO_count 7 (some .int)) (hC : CBs l G d C) : ∀ (a0 : Nat) (r1 : Option Nat) (x2 : Int32) (M : Mem) (H : Heap) (locs : List Loc) (cells slots : Nat) (ls : Array Slot), fO_count_46 n d C a0 r1 x2 M = some (r, M') → RL G M0 M H locs cells slots → lv_has ls 7 [(0, .ref a0), (1, va_rf r1), (2, .int x2)] → W p l e R s m args below meth c H locs cells slots (CQ G below s M0 r M') (F0 m 46 ls []) := by
  obtain ⟨hx, hb, hml, hown, hrt, hlk, hex, hK, hRm⟩ := id F
  intro a0 r1 x2 M H locs cells slots ls h hR hl
  unfold fO_count_46 at h
  refine lv_iconst (v := 0) hx hb dO_count_46 (by decide) ?_
  refine lv_istore_n (lv' := [(3, .int 0), (0, .ref a0), (1, va_rf r1), (2, .int x2)]) hx hb dO_count_47 rfl hl (by decide) rfl (fun ls hl => ?_)
  refine lr_aload_n hx hb dO_count_48 rfl (lv_at hl 2 rfl) ?_
  obtain ⟨a_1, e_2, h⟩ := rz_d h
  rw [e_2]
  obtain ⟨c_3, h⟩ := rz_chk h
  refine rg_getI hx hb hown hK hR hk_N 2 (by decide) kf_O_40 rfl c_3 dO_count_49 ?_
  obtain ⟨q_7, M_5, h_6, h⟩ := rz_c h
  refine rc_S (rest := []) (As := [.int (mI M a_1 2)]) hx hb (hl.1.trans hml.symm) hown hK hR hRm mfO_firstChoice kl_O_43 rfl (by simp [cat_rf, cat_i, cat_a, cat_l, cat_n]) (hC 53 _ _ _ _ h_6) dO_count_52 (fun v1 H locs cells slots ev hR => ?_) (fun x1 q1 ce1 H locs cells slots ex hR g1 g2 g3 => ?_)
  · rcases h with ⟨v_4, ev2, h⟩ | ⟨e2, ee2, -⟩
    · cases ev.symm.trans ev2
      replace h := rz_i h
      obtain ⟨x_8, rfl, h⟩ := h
      dsimp only [Option.toList, List.cons_append, List.nil_append]
      refine lv_istore (lv' := [(4, .int x_8), (3, .int 0), (0, .ref a0), (1, va_rf r1), (2, .int x2)]) hx hb dO_count_55 hl (by decide) rfl (fun ls hl => ?_)
      refine lv_iload hx hb dO_count_57 (lv_at hl 0 rfl) ?_
      refine lr_aload_n hx hb dO_count_59 rfl (lv_at hl 3 rfl) ?_
      obtain ⟨a_9, e_10, h⟩ := rz_d h
      rw [e_10]
      obtain ⟨c_11, h⟩ := rz_chk h
      refine rg_getI hx hb hown hK hR hk_N 2 (by decide) kf_O_40 rfl c_11 dO_count_60 ?_
      refine lv_iload_n hx hb dO_count_63 rfl (lv_at hl 4 rfl) ?_
      obtain ⟨q_15, M_13, h_14, h⟩ := rz_c h
      refine rc_S (rest := [.int x_8]) (As := [.int (mI M_5 a_9 2), .int x2]) hx hb (hl.1.trans hml.symm) hown hK hR hRm mfO_choices kl_O_47 rfl (by simp [cat_rf, cat_i, cat_a, cat_l, cat_n]) (hC 54 _ _ _ _ h_14) dO_count_64 (fun v1 H locs cells slots ev hR => ?_) (fun x1 q1 ce1 H locs cells slots ex hR g1 g2 g3 => ?_)
      · rcases h with ⟨v_12, ev2, h⟩ | ⟨e2, ee2, -⟩
        · cases ev.symm.trans ev2
          replace h := rz_i h
          obtain ⟨x_16, rfl, h⟩ := h
          dsimp only [Option.toList, List.cons_append, List.nil_append]
          refine lv_iadd hx hb dO_count_67 ?_
          refine lv_istore (lv' := [(5, .int (x_8 + x_16)), (4, .int x_8), (3, .int 0), (0, .ref a0), (1, va_rf r1), (2, .int x2)]) hx hb dO_count_68 hl (by decide) rfl (fun ls hl => ?_)
          refine lv_iload hx hb dO_count_70 (lv_at hl 1 rfl) ?_
          refine lv_istore (lv' := [(6, .int x_8), (5, .int (x_8 + x_16)), (4, .int x_8), (3, .int 0), (0, .ref a0), (1, va_rf r1), (2, .int x2)]) hx hb dO_count_72 hl (by decide) rfl (fun ls hl => ?_)
          exact tO_count_74 F hC n a0 r1 0 (x_8 + x_16) x_8 _ _ _ _ _ _ h hR (lv_sub hl [4, 5, 3, 1, 0] rfl)
        · cases ev.symm.trans ee2
      · rcases h with ⟨v2, ev2, -⟩ | ⟨e2, ee2, h⟩
        · cases ex.symm.trans ev2
        · cases ex.symm.trans ee2
          cases h
          exact rt_x hlk hex hR g1 g2 g3
    · cases ev.symm.trans ee2
  · rcases h with ⟨v2, ev2, -⟩ | ⟨e2, ee2, h⟩
    · cases ex.symm.trans ev2
    · cases ex.symm.trans ee2
      cases h
      exact rt_x hlk hex hR g1 g2 g3
def fO_count_0 (n d : Nat) (C : Cx) (a0 : Nat) (r1 : Option Nat) (x2 : Int32) (M : Mem) : Rz := if mK M a0 = 3 then (rzM (setI M a0 0 x2) fun M_2 => (rzM (setI M_2 a0 1 ((1 <<< (x2 &&& 31)) - 1)) fun M_5 => (rzD r1 fun a_8 => (if mK M_5 a_8 = 4 then (if (mI M_5 a_8 0) = 65 then (fO_count_46 n d C a0 r1 x2 M_5) else (if (mI M_5 a_8 0) = 69 then (fO_count_46 n d C a0 r1 x2 M_5) else (rzC (C 49 [.ref a0, va_rf r1] M_5) fun v_13 M_14 => (rzI v_13 fun x_17 => (if x_17 = 0 then (fO_count_45 n d C 0 M_14) else (fO_count_45 n d C 1 M_14)))))) else none)))) else none
set_option maxRecDepth 100000 in
set_option maxHeartbeats 4000000 in
theorem tO_count_0 {n : Nat} (F : FX p s m meth c G R M0 d "HeadCount$World" bO_count 7 (some .int)) (hC : CBs l G d C) : ∀ (a0 : Nat) (r1 : Option Nat) (x2 : Int32) (M : Mem) (H : Heap) (locs : List Loc) (cells slots : Nat) (ls : Array Slot), fO_count_0 n d C a0 r1 x2 M = some (r, M') → RL G M0 M H locs cells slots → lv_has ls 7 [(0, .ref a0), (1, va_rf r1), (2, .int x2)] → W p l e R s m args below meth c H locs cells slots (CQ G below s M0 r M') (F0 m 0 ls []) := by
  obtain ⟨hx, hb, hml, hown, hrt, hlk, hex, hK, hRm⟩ := id F
  intro a0 r1 x2 M H locs cells slots ls h hR hl
  unfold fO_count_0 at h
  refine lv_aload_n hx hb dO_count_0 rfl (lv_at hl 0 rfl) ?_
  refine lv_iload_n hx hb dO_count_1 rfl (lv_at hl 2 rfl) ?_
  obtain ⟨c_1, h⟩ := rz_chk h
  obtain ⟨M_2, q_3, h⟩ := rz_m h
  refine rg_putI hx hb hown hK hR hk_O 0 (by decide) kf_O_23 rfl rfl (ty := .int) (by decide +kernel) (Or.inl rfl) rfl c_1 dO_count_2 (fun H locs hR => ?_)
  rw [← q_3] at hR
  have c_4 : mK M_2 a0 = 3 := by rw [q_3]; exact c_1
  refine lv_aload_n hx hb dO_count_5 rfl (lv_at hl 0 rfl) ?_
  refine lv_iconst (v := 1) hx hb dO_count_6 (by decide) ?_
  refine lv_iload_n hx hb dO_count_7 rfl (lv_at hl 2 rfl) ?_
  refine lv_ishl hx hb dO_count_8 ?_
  refine lv_iconst (v := 1) hx hb dO_count_9 (by decide) ?_
  refine lv_isub hx hb dO_count_10 ?_
  obtain ⟨M_5, q_6, h⟩ := rz_m h
  refine rg_putI hx hb hown hK hR hk_O 1 (by decide) kf_O_27 rfl rfl (ty := .int) (by decide +kernel) (Or.inl rfl) rfl c_4 dO_count_11 (fun H locs hR => ?_)
  rw [← q_6] at hR
  have c_7 : mK M_5 a0 = 3 := by rw [q_6]; exact c_4
  refine lr_aload_n hx hb dO_count_14 rfl (lv_at hl 1 rfl) ?_
  obtain ⟨a_8, e_9, h⟩ := rz_d h
  rw [e_9]
  obtain ⟨c_10, h⟩ := rz_chk h
  refine rg_getI hx hb hown hK hR hk_N 0 (by decide) kf_O_30 rfl c_10 dO_count_15 ?_
  refine lv_bipush (v := 65) hx hb dO_count_18 (by decide) ?_
  refine lv_icmp_eq (tgt := 46) hx hb dO_count_20 (by decide) (fun c_11 => ?_) (fun c_11 => ?_)
  · replace h := rz_t c_11 h
    exact tO_count_46 F hC a0 r1 x2 _ _ _ _ _ _ h hR (lv_sub hl [0, 1, 2] rfl)
  · replace h := rz_f c_11 h
    refine lr_aload_n hx hb dO_count_23 rfl (lv_at hl 1 rfl) ?_
    rw [e_9]
    refine rg_getI hx hb hown hK hR hk_N 0 (by decide) kf_O_30 rfl c_10 dO_count_24 ?_
    refine lv_bipush (v := 69) hx hb dO_count_27 (by decide) ?_
    refine lv_icmp_eq (tgt := 46) hx hb dO_count_29 (by decide) (fun c_12 => ?_) (fun c_12 => ?_)
    · replace h := rz_t c_12 h
      exact tO_count_46 F hC a0 r1 x2 _ _ _ _ _ _ h hR (lv_sub hl [0, 1, 2] rfl)
    · replace h := rz_f c_12 h
      refine lv_aload_n hx hb dO_count_32 rfl (lv_at hl 0 rfl) ?_
      refine lr_aload_n hx hb dO_count_33 rfl (lv_at hl 1 rfl) ?_
      obtain ⟨q_16, M_14, h_15, h⟩ := rz_c h
      refine rc_V (rest := []) (As := [va_rf r1]) hx hb (hl.1.trans hml.symm) hown hK hR hRm mfO_isTrue kl_O_36 hk_O rfl rfl c_7 (by simp [cat_rf, cat_i, cat_a, cat_l, cat_n]) (hC 49 _ _ _ _ h_15) dO_count_34 (fun v1 H locs cells slots ev hR => ?_) (fun x1 q1 ce1 H locs cells slots ex hR g1 g2 g3 => ?_)
      · rcases h with ⟨v_13, ev2, h⟩ | ⟨e2, ee2, -⟩
        · cases ev.symm.trans ev2
          replace h := rz_i h
          obtain ⟨x_17, rfl, h⟩ := h
          dsimp only [Option.toList, List.cons_append, List.nil_append]
          refine lv_if_eq (tgt := 44) hx hb dO_count_37 (by decide) (fun c_18 => ?_) (fun c_18 => ?_)
          · replace h := rz_t c_18 h
            refine lv_iconst (v := 0) hx hb dO_count_44 (by decide) ?_
            exact tO_count_45 F hC 0 _ _ _ _ _ _ h hR (lv_sub hl [] rfl)
          · replace h := rz_f c_18 h
            refine lv_iconst (v := 1) hx hb dO_count_40 (by decide) ?_
            refine lv_goto (tgt := 45) hx hb dO_count_41 (by decide) ?_
            exact tO_count_45 F hC 1 _ _ _ _ _ _ h hR (lv_sub hl [] rfl)
        · cases ev.symm.trans ee2
      · rcases h with ⟨v2, ev2, -⟩ | ⟨e2, ee2, h⟩
        · cases ex.symm.trans ev2
        · cases ex.symm.trans ee2
          cases h
          exact rt_x hlk hex hR g1 g2 g3
set_option maxRecDepth 100000 in
set_option maxHeartbeats 4000000 in
theorem sO_count {l : Launch} {G : Gx} {n d : Nat} {C : Cx} (hC : CBs l G d C) (a0 : Nat) (r1 : Option Nat) (x2 : Int32) {M M' : Mem} {r : Option Value ⊕ Nat} (h : fO_count_0 n d C a0 r1 x2 M = some (r, M')) : CB l G (d + 1) yO_count [.ref a0, va_rf r1, .int x2] M r M' := by
  intro p e R s m below meth c hx hn hm hc hlk hK hR hcap hS hU hfr hlo hrc hrs
  obtain ⟨hb, hml, hrt, hex, hown⟩ := fx_of hn hm hc (hK.w mfO_count.2.2.1 rfl #[])
  have F : FX p s m meth c G R M d "HeadCount$World" bO_count 7 (some .int) := ⟨hx, hb, hml, hown, hrt, hlk, hex, hK, hfr, hlo, by rw [← hcap]; exact hrc, hrs⟩
  rw [hml]
  have hl := lv_entry ([.ref a0, va_rf r1, .int x2]) (n := 7) (by simp [lg_sl, cat_rf, cat_i, cat_a, cat_l, cat_n])
  rw [lg_entry_eq]
  generalize (lg_sl ([.ref a0, va_rf r1, .int x2]) ++ List.replicate (7 - (lg_sl ([.ref a0, va_rf r1, .int x2])).length) Slot.unset).toArray = ls at hl ⊢
  have hl : lv_has ls 7 [(0, .ref a0), (1, va_rf r1), (2, .int x2)] := by simpa [lv_args, cat_rf, cat_i, cat_a, cat_l, cat_n] using hl
  exact tO_count_0 F hC a0 r1 x2 _ _ _ _ _ _ h (RL.start hR hcap hS hU) (lv_sub hl [0, 1, 2] rfl)
def fO_isTrue_128 (n d : Nat) (C : Cx) (xs0 : Int32) (M : Mem) : Rz := if fits .boolean (.int xs0) = true then (some (.inl (some (.int xs0)), M)) else none
set_option maxRecDepth 100000 in
set_option maxHeartbeats 4000000 in
theorem tO_isTrue_128 {n : Nat} (F : FX p s m meth c G R M0 d "HeadCount$World" bO_isTrue 2 (some .boolean)) (hC : CBs l G d C) : ∀ (xs0 : Int32) (M : Mem) (H : Heap) (locs : List Loc) (cells slots : Nat) (ls : Array Slot), fO_isTrue_128 n d C xs0 M = some (r, M') → RL G M0 M H locs cells slots → lv_has ls 2 [] → W p l e R s m args below meth c H locs cells slots (CQ G below s M0 r M') (F0 m 128 ls [.int xs0]) := by
  obtain ⟨hx, hb, hml, hown, hrt, hlk, hex, hK, hRm⟩ := id F
  intro xs0 M H locs cells slots ls h hR hl
  unfold fO_isTrue_128 at h
  obtain ⟨c_1, h⟩ := rz_chk h
  cases h
  exact rt_i hx hb hlk hrt (Or.inr (Or.inr rfl)) c_1 hR dO_isTrue_128
def fO_isTrue_111 (n d : Nat) (C : Cx) (xs0 : Int32) (M : Mem) : Rz := if fits .boolean (.int xs0) = true then (some (.inl (some (.int xs0)), M)) else none
set_option maxRecDepth 100000 in
set_option maxHeartbeats 4000000 in
theorem tO_isTrue_111 {n : Nat} (F : FX p s m meth c G R M0 d "HeadCount$World" bO_isTrue 2 (some .boolean)) (hC : CBs l G d C) : ∀ (xs0 : Int32) (M : Mem) (H : Heap) (locs : List Loc) (cells slots : Nat) (ls : Array Slot), fO_isTrue_111 n d C xs0 M = some (r, M') → RL G M0 M H locs cells slots → lv_has ls 2 [] → W p l e R s m args below meth c H locs cells slots (CQ G below s M0 r M') (F0 m 111 ls [.int xs0]) := by
  obtain ⟨hx, hb, hml, hown, hrt, hlk, hex, hK, hRm⟩ := id F
  intro xs0 M H locs cells slots ls h hR hl
  unfold fO_isTrue_111 at h
  obtain ⟨c_1, h⟩ := rz_chk h
  cases h
  exact rt_i hx hb hlk hrt (Or.inr (Or.inr rfl)) c_1 hR dO_isTrue_111
def fO_isTrue_152 (n d : Nat) (C : Cx) (xs0 : Int32) (M : Mem) : Rz := if fits .boolean (.int xs0) = true then (some (.inl (some (.int xs0)), M)) else none
set_option maxRecDepth 100000 in
set_option maxHeartbeats 4000000 in
theorem tO_isTrue_152 {n : Nat} (F : FX p s m meth c G R M0 d "HeadCount$World" bO_isTrue 2 (some .boolean)) (hC : CBs l G d C) : ∀ (xs0 : Int32) (M : Mem) (H : Heap) (locs : List Loc) (cells slots : Nat) (ls : Array Slot), fO_isTrue_152 n d C xs0 M = some (r, M') → RL G M0 M H locs cells slots → lv_has ls 2 [] → W p l e R s m args below meth c H locs cells slots (CQ G below s M0 r M') (F0 m 152 ls [.int xs0]) := by
  obtain ⟨hx, hb, hml, hown, hrt, hlk, hex, hK, hRm⟩ := id F
  intro xs0 M H locs cells slots ls h hR hl
  unfold fO_isTrue_152 at h
  obtain ⟨c_1, h⟩ := rz_chk h
  cases h
  exact rt_i hx hb hlk hrt (Or.inr (Or.inr rfl)) c_1 hR dO_isTrue_152
def fO_isTrue_160 (n d : Nat) (C : Cx) (a0 : Nat) (r1 : Option Nat) (M : Mem) : Rz := if mK M a0 = 3 then (rzC (C 56 [.ref a0, va_rf r1] M) fun v_2 M_3 => (rzI v_2 fun x_6 => (if fits .boolean (.int x_6) = true then (some (.inl (some (.int x_6)), M_3)) else none))) else none
set_option maxRecDepth 100000 in
set_option maxHeartbeats 4000000 in
theorem tO_isTrue_160 {n : Nat} (F : FX p s m meth c G R M0 d "HeadCount$World" bO_isTrue 2 (some .boolean)) (hC : CBs l G d C) : ∀ (a0 : Nat) (r1 : Option Nat) (M : Mem) (H : Heap) (locs : List Loc) (cells slots : Nat) (ls : Array Slot), fO_isTrue_160 n d C a0 r1 M = some (r, M') → RL G M0 M H locs cells slots → lv_has ls 2 [(0, .ref a0), (1, va_rf r1)] → W p l e R s m args below meth c H locs cells slots (CQ G below s M0 r M') (F0 m 160 ls []) := by
  obtain ⟨hx, hb, hml, hown, hrt, hlk, hex, hK, hRm⟩ := id F
  intro a0 r1 M H locs cells slots ls h hR hl
  unfold fO_isTrue_160 at h
  refine lv_aload_n hx hb dO_isTrue_160 rfl (lv_at hl 0 rfl) ?_
  refine lr_aload_n hx hb dO_isTrue_161 rfl (lv_at hl 1 rfl) ?_
  obtain ⟨c_1, h⟩ := rz_chk h
  obtain ⟨q_5, M_3, h_4, h⟩ := rz_c h
  refine rc_V (rest := []) (As := [va_rf r1]) hx hb (hl.1.trans hml.symm) hown hK hR hRm mfO_isTrueOfSets kl_O_66 hk_O rfl rfl c_1 (by simp [cat_rf, cat_i, cat_a, cat_l, cat_n]) (hC 56 _ _ _ _ h_4) dO_isTrue_162 (fun v1 H locs cells slots ev hR => ?_) (fun x1 q1 ce1 H locs cells slots ex hR g1 g2 g3 => ?_)
  · rcases h with ⟨v_2, ev2, h⟩ | ⟨e2, ee2, -⟩
    · cases ev.symm.trans ev2
      replace h := rz_i h
      obtain ⟨x_6, rfl, h⟩ := h
      dsimp only [Option.toList, List.cons_append, List.nil_append]
      obtain ⟨c_7, h⟩ := rz_chk h
      cases h
      exact rt_i hx hb hlk hrt (Or.inr (Or.inr rfl)) c_7 hR dO_isTrue_165
    · cases ev.symm.trans ee2
  · rcases h with ⟨v2, ev2, -⟩ | ⟨e2, ee2, h⟩
    · cases ex.symm.trans ev2
    · cases ex.symm.trans ee2
      cases h
      exact rt_x hlk hex hR g1 g2 g3
def fO_isTrue_0 (n d : Nat) (C : Cx) (a0 : Nat) (r1 : Option Nat) (M : Mem) : Rz := rzN r1 (if fits .boolean (.int 0) = true then (some (.inl (some (.int 0)), M)) else none) fun a_1 => (if mK M a_1 = 4 then (if (mI M a_1 0) = 33 then (if mK M a0 = 3 then (rzC (C 49 [.ref a0, va_rf (mP M a_1 3)] M) fun v_7 M_8 => (rzI v_7 fun x_11 => (if x_11 = 0 then (fO_isTrue_128 n d C 1 M_8) else (fO_isTrue_128 n d C 0 M_8)))) else none) else (if (mI M a_1 0) = 38 then (if mK M a0 = 3 then (rzC (C 50 [.ref a0, .int 0, va_rf (mP M a_1 3)] M) fun v_15 M_16 => (rzI v_15 fun x_19 => (if x_19 = 0 then (fO_isTrue_111 n d C 1 M_16) else (fO_isTrue_111 n d C 0 M_16)))) else none) else (if (mI M a_1 0) = 40 then (if mK M a0 = 3 then (rzC (C 49 [.ref a0, va_rf (mP M a_1 3)] M) fun v_23 M_24 => (rzI v_23 fun x_27 => (if fits .boolean (.int x_27) = true then (some (.inl (some (.int x_27)), M_24)) else none))) else none) else (if (mI M a_1 0) = 65 then (if mK M a0 = 3 then (rzC (C 51 [.ref a0, .int 0, va_rf r1] M) fun v_31 M_32 => (rzI v_31 fun x_35 => (if x_35 = 0 then (fO_isTrue_152 n d C 1 M_32) else (fO_isTrue_152 n d C 0 M_32)))) else none) else (if (mI M a_1 0) = 69 then (if mK M a0 = 3 then (rzC (C 51 [.ref a0, .int 1, va_rf r1] M) fun v_39 M_40 => (rzI v_39 fun x_43 => (if fits .boolean (.int x_43) = true then (some (.inl (some (.int x_43)), M_40)) else none))) else none) else (if (mI M a_1 0) = 91 then (fO_isTrue_160 n d C a0 r1 M) else (if (mI M a_1 0) = 93 then (fO_isTrue_160 n d C a0 r1 M) else (if (mI M a_1 0) = 124 then (if mK M a0 = 3 then (rzC (C 50 [.ref a0, .int 1, va_rf (mP M a_1 3)] M) fun v_49 M_50 => (rzI v_49 fun x_53 => (if fits .boolean (.int x_53) = true then (some (.inl (some (.int x_53)), M_50)) else none))) else none) else (if mK M a0 = 3 then (rzC (C 60 [.ref a0, va_rf r1] M) fun v_56 M_57 => (rzI v_56 fun x_60 => (if fits .boolean (.int x_60) = true then (some (.inl (some (.int x_60)), M_57)) else none))) else none))))))))) else none)
set_option maxRecDepth 100000 in
set_option maxHeartbeats 4000000 in
theorem tO_isTrue_0 {n : Nat} (F : FX p s m meth c G R M0 d "HeadCount$World" bO_isTrue 2 (some .boolean)) (hC : CBs l G d C) : ∀ (a0 : Nat) (r1 : Option Nat) (M : Mem) (H : Heap) (locs : List Loc) (cells slots : Nat) (ls : Array Slot), fO_isTrue_0 n d C a0 r1 M = some (r, M') → RL G M0 M H locs cells slots → lv_has ls 2 [(0, .ref a0), (1, va_rf r1)] → W p l e R s m args below meth c H locs cells slots (CQ G below s M0 r M') (F0 m 0 ls []) := by
  obtain ⟨hx, hb, hml, hown, hrt, hlk, hex, hK, hRm⟩ := id F
  intro a0 r1 M H locs cells slots ls h hR hl
  unfold fO_isTrue_0 at h
  refine lr_aload_n hx hb dO_isTrue_0 rfl (lv_at hl 1 rfl) ?_
  refine lr_ifnonnull (tgt := 6) hx hb dO_isTrue_1 (by decide) (fun a_1 e_2 => ?_) (fun e_2 => ?_)
  · replace h := rz_n2 e_2 h
    refine lr_aload_n hx hb dO_isTrue_6 rfl (lv_at hl 1 rfl) ?_
    rw [e_2]
    obtain ⟨c_4, h⟩ := rz_chk h
    refine rg_getI hx hb hown hK hR hk_N 0 (by decide) kf_O_30 rfl c_4 dO_isTrue_7 ?_
    by_cases c_5 : (mI M a_1 0) = 33
    · replace h := rz_t c_5 h
      refine lv_lookup (off := 102) (tgt := 112) hx hb dO_isTrue_10 (by decide) (by rw [c_5]; decide) (by decide) ?_
      refine lv_aload_n hx hb dO_isTrue_112 rfl (lv_at hl 0 rfl) ?_
      refine lr_aload_n hx hb dO_isTrue_113 rfl (lv_at hl 1 rfl) ?_
      rw [e_2]
      refine rg_getP hx hb hown hK hR hk_N 3 (by decide) kf_O_55 rfl c_4 dO_isTrue_114 ?_
      obtain ⟨c_6, h⟩ := rz_chk h
      obtain ⟨q_10, M_8, h_9, h⟩ := rz_c h
      refine rc_V (rest := []) (As := [va_rf (mP M a_1 3)]) hx hb (hl.1.trans hml.symm) hown hK hR hRm mfO_isTrue kl_O_36 hk_O rfl rfl c_6 (by simp [cat_rf, cat_i, cat_a, cat_l, cat_n]) (hC 49 _ _ _ _ h_9) dO_isTrue_117 (fun v1 H locs cells slots ev hR => ?_) (fun x1 q1 ce1 H locs cells slots ex hR g1 g2 g3 => ?_)
      · rcases h with ⟨v_7, ev2, h⟩ | ⟨e2, ee2, -⟩
        · cases ev.symm.trans ev2
          replace h := rz_i h
          obtain ⟨x_11, rfl, h⟩ := h
          dsimp only [Option.toList, List.cons_append, List.nil_append]
          refine lv_if_ne (tgt := 127) hx hb dO_isTrue_120 (by decide) (fun c_12 => ?_) (fun c_12 => ?_)
          · replace h := rz_f c_12 h
            refine lv_iconst (v := 0) hx hb dO_isTrue_127 (by decide) ?_
            exact tO_isTrue_128 F hC 0 _ _ _ _ _ _ h hR (lv_sub hl [] rfl)
          · replace h := rz_t c_12 h
            refine lv_iconst (v := 1) hx hb dO_isTrue_123 (by decide) ?_
            refine lv_goto (tgt := 128) hx hb dO_isTrue_124 (by decide) ?_
            exact tO_isTrue_128 F hC 1 _ _ _ _ _ _ h hR (lv_sub hl [] rfl)
        · cases ev.symm.trans ee2
      · rcases h with ⟨v2, ev2, -⟩ | ⟨e2, ee2, h⟩
        · cases ex.symm.trans ev2
        · cases ex.symm.trans ee2
          cases h
          exact rt_x hlk hex hR g1 g2 g3
    · replace h := rz_f c_5 h
      by_cases c_13 : (mI M a_1 0) = 38
      · replace h := rz_t c_13 h
        refine lv_lookup (off := 84) (tgt := 94) hx hb dO_isTrue_10 (by decide) (by rw [c_13]; decide) (by decide) ?_
        refine lv_aload_n hx hb dO_isTrue_94 rfl (lv_at hl 0 rfl) ?_
        refine lv_iconst (v := 0) hx hb dO_isTrue_95 (by decide) ?_
        refine lr_aload_n hx hb dO_isTrue_96 rfl (lv_at hl 1 rfl) ?_
        rw [e_2]
        refine rg_getP hx hb hown hK hR hk_N 3 (by decide) kf_O_55 rfl c_4 dO_isTrue_97 ?_
        obtain ⟨c_14, h⟩ := rz_chk h
        obtain ⟨q_18, M_16, h_17, h⟩ := rz_c h
        refine rc_V (rest := []) (As := [.int 0, va_rf (mP M a_1 3)]) hx hb (hl.1.trans hml.symm) hown hK hR hRm mfO_anyIs kl_O_59 hk_O rfl rfl c_14 (by simp [cat_rf, cat_i, cat_a, cat_l, cat_n]) (hC 50 _ _ _ _ h_17) dO_isTrue_100 (fun v1 H locs cells slots ev hR => ?_) (fun x1 q1 ce1 H locs cells slots ex hR g1 g2 g3 => ?_)
        · rcases h with ⟨v_15, ev2, h⟩ | ⟨e2, ee2, -⟩
          · cases ev.symm.trans ev2
            replace h := rz_i h
            obtain ⟨x_19, rfl, h⟩ := h
            dsimp only [Option.toList, List.cons_append, List.nil_append]
            refine lv_if_ne (tgt := 110) hx hb dO_isTrue_103 (by decide) (fun c_20 => ?_) (fun c_20 => ?_)
            · replace h := rz_f c_20 h
              refine lv_iconst (v := 0) hx hb dO_isTrue_110 (by decide) ?_
              exact tO_isTrue_111 F hC 0 _ _ _ _ _ _ h hR (lv_sub hl [] rfl)
            · replace h := rz_t c_20 h
              refine lv_iconst (v := 1) hx hb dO_isTrue_106 (by decide) ?_
              refine lv_goto (tgt := 111) hx hb dO_isTrue_107 (by decide) ?_
              exact tO_isTrue_111 F hC 1 _ _ _ _ _ _ h hR (lv_sub hl [] rfl)
          · cases ev.symm.trans ee2
        · rcases h with ⟨v2, ev2, -⟩ | ⟨e2, ee2, h⟩
          · cases ex.symm.trans ev2
          · cases ex.symm.trans ee2
            cases h
            exact rt_x hlk hex hR g1 g2 g3
      · replace h := rz_f c_13 h
        by_cases c_21 : (mI M a_1 0) = 40
        · replace h := rz_t c_21 h
          refine lv_lookup (off := 119) (tgt := 129) hx hb dO_isTrue_10 (by decide) (by rw [c_21]; decide) (by decide) ?_
          refine lv_aload_n hx hb dO_isTrue_129 rfl (lv_at hl 0 rfl) ?_
          refine lr_aload_n hx hb dO_isTrue_130 rfl (lv_at hl 1 rfl) ?_
          rw [e_2]
          refine rg_getP hx hb hown hK hR hk_N 3 (by decide) kf_O_55 rfl c_4 dO_isTrue_131 ?_
          obtain ⟨c_22, h⟩ := rz_chk h
          obtain ⟨q_26, M_24, h_25, h⟩ := rz_c h
          refine rc_V (rest := []) (As := [va_rf (mP M a_1 3)]) hx hb (hl.1.trans hml.symm) hown hK hR hRm mfO_isTrue kl_O_36 hk_O rfl rfl c_22 (by simp [cat_rf, cat_i, cat_a, cat_l, cat_n]) (hC 49 _ _ _ _ h_25) dO_isTrue_134 (fun v1 H locs cells slots ev hR => ?_) (fun x1 q1 ce1 H locs cells slots ex hR g1 g2 g3 => ?_)
          · rcases h with ⟨v_23, ev2, h⟩ | ⟨e2, ee2, -⟩
            · cases ev.symm.trans ev2
              replace h := rz_i h
              obtain ⟨x_27, rfl, h⟩ := h
              dsimp only [Option.toList, List.cons_append, List.nil_append]
              obtain ⟨c_28, h⟩ := rz_chk h
              cases h
              exact rt_i hx hb hlk hrt (Or.inr (Or.inr rfl)) c_28 hR dO_isTrue_137
            · cases ev.symm.trans ee2
          · rcases h with ⟨v2, ev2, -⟩ | ⟨e2, ee2, h⟩
            · cases ex.symm.trans ev2
            · cases ex.symm.trans ee2
              cases h
              exact rt_x hlk hex hR g1 g2 g3
        · replace h := rz_f c_21 h
          by_cases c_29 : (mI M a_1 0) = 65
          · replace h := rz_t c_29 h
            refine lv_lookup (off := 128) (tgt := 138) hx hb dO_isTrue_10 (by decide) (by rw [c_29]; decide) (by decide) ?_
            refine lv_aload_n hx hb dO_isTrue_138 rfl (lv_at hl 0 rfl) ?_
            refine lv_iconst (v := 0) hx hb dO_isTrue_139 (by decide) ?_
            refine lr_aload_n hx hb dO_isTrue_140 rfl (lv_at hl 1 rfl) ?_
            obtain ⟨c_30, h⟩ := rz_chk h
            obtain ⟨q_34, M_32, h_33, h⟩ := rz_c h
            refine rc_V (rest := []) (As := [.int 0, va_rf r1]) hx hb (hl.1.trans hml.symm) hown hK hR hRm mfO_anyChoiceMakes kl_O_63 hk_O rfl rfl c_30 (by simp [cat_rf, cat_i, cat_a, cat_l, cat_n]) (hC 51 _ _ _ _ h_33) dO_isTrue_141 (fun v1 H locs cells slots ev hR => ?_) (fun x1 q1 ce1 H locs cells slots ex hR g1 g2 g3 => ?_)
            · rcases h with ⟨v_31, ev2, h⟩ | ⟨e2, ee2, -⟩
              · cases ev.symm.trans ev2
                replace h := rz_i h
                obtain ⟨x_35, rfl, h⟩ := h
                dsimp only [Option.toList, List.cons_append, List.nil_append]
                refine lv_if_ne (tgt := 151) hx hb dO_isTrue_144 (by decide) (fun c_36 => ?_) (fun c_36 => ?_)
                · replace h := rz_f c_36 h
                  refine lv_iconst (v := 0) hx hb dO_isTrue_151 (by decide) ?_
                  exact tO_isTrue_152 F hC 0 _ _ _ _ _ _ h hR (lv_sub hl [] rfl)
                · replace h := rz_t c_36 h
                  refine lv_iconst (v := 1) hx hb dO_isTrue_147 (by decide) ?_
                  refine lv_goto (tgt := 152) hx hb dO_isTrue_148 (by decide) ?_
                  exact tO_isTrue_152 F hC 1 _ _ _ _ _ _ h hR (lv_sub hl [] rfl)
              · cases ev.symm.trans ee2
            · rcases h with ⟨v2, ev2, -⟩ | ⟨e2, ee2, h⟩
              · cases ex.symm.trans ev2
              · cases ex.symm.trans ee2
                cases h
                exact rt_x hlk hex hR g1 g2 g3
          · replace h := rz_f c_29 h
            by_cases c_37 : (mI M a_1 0) = 69
            · replace h := rz_t c_37 h
              refine lv_lookup (off := 143) (tgt := 153) hx hb dO_isTrue_10 (by decide) (by rw [c_37]; decide) (by decide) ?_
              refine lv_aload_n hx hb dO_isTrue_153 rfl (lv_at hl 0 rfl) ?_
              refine lv_iconst (v := 1) hx hb dO_isTrue_154 (by decide) ?_
              refine lr_aload_n hx hb dO_isTrue_155 rfl (lv_at hl 1 rfl) ?_
              obtain ⟨c_38, h⟩ := rz_chk h
              obtain ⟨q_42, M_40, h_41, h⟩ := rz_c h
              refine rc_V (rest := []) (As := [.int 1, va_rf r1]) hx hb (hl.1.trans hml.symm) hown hK hR hRm mfO_anyChoiceMakes kl_O_63 hk_O rfl rfl c_38 (by simp [cat_rf, cat_i, cat_a, cat_l, cat_n]) (hC 51 _ _ _ _ h_41) dO_isTrue_156 (fun v1 H locs cells slots ev hR => ?_) (fun x1 q1 ce1 H locs cells slots ex hR g1 g2 g3 => ?_)
              · rcases h with ⟨v_39, ev2, h⟩ | ⟨e2, ee2, -⟩
                · cases ev.symm.trans ev2
                  replace h := rz_i h
                  obtain ⟨x_43, rfl, h⟩ := h
                  dsimp only [Option.toList, List.cons_append, List.nil_append]
                  obtain ⟨c_44, h⟩ := rz_chk h
                  cases h
                  exact rt_i hx hb hlk hrt (Or.inr (Or.inr rfl)) c_44 hR dO_isTrue_159
                · cases ev.symm.trans ee2
              · rcases h with ⟨v2, ev2, -⟩ | ⟨e2, ee2, h⟩
                · cases ex.symm.trans ev2
                · cases ex.symm.trans ee2
                  cases h
                  exact rt_x hlk hex hR g1 g2 g3
            · replace h := rz_f c_37 h
              by_cases c_45 : (mI M a_1 0) = 91
              · replace h := rz_t c_45 h
                refine lv_lookup (off := 150) (tgt := 160) hx hb dO_isTrue_10 (by decide) (by rw [c_45]; decide) (by decide) ?_
                exact tO_isTrue_160 F hC a0 r1 _ _ _ _ _ _ h hR (lv_sub hl [0, 1] rfl)
              · replace h := rz_f c_45 h
                by_cases c_46 : (mI M a_1 0) = 93
                · replace h := rz_t c_46 h
                  refine lv_lookup (off := 150) (tgt := 160) hx hb dO_isTrue_10 (by decide) (by rw [c_46]; decide) (by decide) ?_
                  exact tO_isTrue_160 F hC a0 r1 _ _ _ _ _ _ h hR (lv_sub hl [0, 1] rfl)
                · replace h := rz_f c_46 h
                  by_cases c_47 : (mI M a_1 0) = 124
                  · replace h := rz_t c_47 h
                    refine lv_lookup (off := 74) (tgt := 84) hx hb dO_isTrue_10 (by decide) (by rw [c_47]; decide) (by decide) ?_
                    refine lv_aload_n hx hb dO_isTrue_84 rfl (lv_at hl 0 rfl) ?_
                    refine lv_iconst (v := 1) hx hb dO_isTrue_85 (by decide) ?_
                    refine lr_aload_n hx hb dO_isTrue_86 rfl (lv_at hl 1 rfl) ?_
                    rw [e_2]
                    refine rg_getP hx hb hown hK hR hk_N 3 (by decide) kf_O_55 rfl c_4 dO_isTrue_87 ?_
                    obtain ⟨c_48, h⟩ := rz_chk h
                    obtain ⟨q_52, M_50, h_51, h⟩ := rz_c h
                    refine rc_V (rest := []) (As := [.int 1, va_rf (mP M a_1 3)]) hx hb (hl.1.trans hml.symm) hown hK hR hRm mfO_anyIs kl_O_59 hk_O rfl rfl c_48 (by simp [cat_rf, cat_i, cat_a, cat_l, cat_n]) (hC 50 _ _ _ _ h_51) dO_isTrue_90 (fun v1 H locs cells slots ev hR => ?_) (fun x1 q1 ce1 H locs cells slots ex hR g1 g2 g3 => ?_)
                    · rcases h with ⟨v_49, ev2, h⟩ | ⟨e2, ee2, -⟩
                      · cases ev.symm.trans ev2
                        replace h := rz_i h
                        obtain ⟨x_53, rfl, h⟩ := h
                        dsimp only [Option.toList, List.cons_append, List.nil_append]
                        obtain ⟨c_54, h⟩ := rz_chk h
                        cases h
                        exact rt_i hx hb hlk hrt (Or.inr (Or.inr rfl)) c_54 hR dO_isTrue_93
                      · cases ev.symm.trans ee2
                    · rcases h with ⟨v2, ev2, -⟩ | ⟨e2, ee2, h⟩
                      · cases ex.symm.trans ev2
                      · cases ex.symm.trans ee2
                        cases h
                        exact rt_x hlk hex hR g1 g2 g3
                  · replace h := rz_f c_47 h
                    refine lv_lookup (off := 156) (tgt := 166) hx hb dO_isTrue_10 (by decide) ((lv_osw c_5 (k := 33) (by decide)).trans ((lv_osw c_13 (k := 38) (by decide)).trans ((lv_osw c_21 (k := 40) (by decide)).trans ((lv_osw c_29 (k := 65) (by decide)).trans ((lv_osw c_37 (k := 69) (by decide)).trans ((lv_osw c_45 (k := 91) (by decide)).trans ((lv_osw c_46 (k := 93) (by decide)).trans ((lv_osw c_47 (k := 124) (by decide)).trans rfl)))))))) (by decide) ?_
                    refine lv_aload_n hx hb dO_isTrue_166 rfl (lv_at hl 0 rfl) ?_
                    refine lr_aload_n hx hb dO_isTrue_167 rfl (lv_at hl 1 rfl) ?_
                    obtain ⟨c_55, h⟩ := rz_chk h
                    obtain ⟨q_59, M_57, h_58, h⟩ := rz_c h
                    refine rc_V (rest := []) (As := [va_rf r1]) hx hb (hl.1.trans hml.symm) hown hK hR hRm mfO_isTrueOfSum kl_O_69 hk_O rfl rfl c_55 (by simp [cat_rf, cat_i, cat_a, cat_l, cat_n]) (hC 60 _ _ _ _ h_58) dO_isTrue_168 (fun v1 H locs cells slots ev hR => ?_) (fun x1 q1 ce1 H locs cells slots ex hR g1 g2 g3 => ?_)
                    · rcases h with ⟨v_56, ev2, h⟩ | ⟨e2, ee2, -⟩
                      · cases ev.symm.trans ev2
                        replace h := rz_i h
                        obtain ⟨x_60, rfl, h⟩ := h
                        dsimp only [Option.toList, List.cons_append, List.nil_append]
                        obtain ⟨c_61, h⟩ := rz_chk h
                        cases h
                        exact rt_i hx hb hlk hrt (Or.inr (Or.inr rfl)) c_61 hR dO_isTrue_171
                      · cases ev.symm.trans ee2
                    · rcases h with ⟨v2, ev2, -⟩ | ⟨e2, ee2, h⟩
                      · cases ex.symm.trans ev2
                      · cases ex.symm.trans ee2
                        cases h
                        exact rt_x hlk hex hR g1 g2 g3
  · replace h := rz_n1 e_2 h
    refine lv_iconst (v := 0) hx hb dO_isTrue_4 (by decide) ?_
    obtain ⟨c_3, h⟩ := rz_chk h
    cases h
    exact rt_i hx hb hlk hrt (Or.inr (Or.inr rfl)) c_3 hR dO_isTrue_5
set_option maxRecDepth 100000 in
set_option maxHeartbeats 4000000 in
theorem sO_isTrue {l : Launch} {G : Gx} {n d : Nat} {C : Cx} (hC : CBs l G d C) (a0 : Nat) (r1 : Option Nat) {M M' : Mem} {r : Option Value ⊕ Nat} (h : fO_isTrue_0 n d C a0 r1 M = some (r, M')) : CB l G (d + 1) yO_isTrue [.ref a0, va_rf r1] M r M' := by
  intro p e R s m below meth c hx hn hm hc hlk hK hR hcap hS hU hfr hlo hrc hrs
  obtain ⟨hb, hml, hrt, hex, hown⟩ := fx_of hn hm hc (hK.w mfO_isTrue.2.2.1 rfl #[])
  have F : FX p s m meth c G R M d "HeadCount$World" bO_isTrue 2 (some .boolean) := ⟨hx, hb, hml, hown, hrt, hlk, hex, hK, hfr, hlo, by rw [← hcap]; exact hrc, hrs⟩
  rw [hml]
  have hl := lv_entry ([.ref a0, va_rf r1]) (n := 2) (by simp [lg_sl, cat_rf, cat_i, cat_a, cat_l, cat_n])
  rw [lg_entry_eq]
  generalize (lg_sl ([.ref a0, va_rf r1]) ++ List.replicate (2 - (lg_sl ([.ref a0, va_rf r1])).length) Slot.unset).toArray = ls at hl ⊢
  have hl : lv_has ls 2 [(0, .ref a0), (1, va_rf r1)] := by simpa [lv_args, cat_rf, cat_i, cat_a, cat_l, cat_n] using hl
  exact tO_isTrue_0 F hC a0 r1 _ _ _ _ _ _ h (RL.start hR hcap hS hU) (lv_sub hl [0, 1] rfl)
def fO_anyIs_2 (n d : Nat) (C : Cx) : Nat → Nat → Int32 → Option Nat → Mem → Rz
  | 0, _, _, _, _ => none
  | w + 1, a0, x1, r3, M => rzN r3 (if fits .boolean (.int 0) = true then (some (.inl (some (.int 0)), M)) else none) fun a_1 => (if mK M a0 = 3 then (rzC (C 49 [.ref a0, va_rf r3] M) fun v_5 M_6 => (rzI v_5 fun x_9 => (if x_9 = x1 then (if fits .boolean (.int 1) = true then (some (.inl (some (.int 1)), M_6)) else none) else (rzD r3 fun a_11 => (if mK M_6 a_11 = 4 then (fO_anyIs_2 n d C w a0 x1 (mP M_6 a_11 4) M_6) else none))))) else none)
set_option maxRecDepth 100000 in
set_option maxHeartbeats 4000000 in
theorem tO_anyIs_2 {n : Nat} (F : FX p s m meth c G R M0 d "HeadCount$World" bO_anyIs 4 (some .boolean)) (hC : CBs l G d C) : ∀ (w : Nat) (a0 : Nat) (x1 : Int32) (r3 : Option Nat) (M : Mem) (H : Heap) (locs : List Loc) (cells slots : Nat) (ls : Array Slot), fO_anyIs_2 n d C w a0 x1 r3 M = some (r, M') → RL G M0 M H locs cells slots → lv_has ls 4 [(0, .ref a0), (1, .int x1), (3, va_rf r3)] → W p l e R s m args below meth c H locs cells slots (CQ G below s M0 r M') (F0 m 2 ls []) := by
  obtain ⟨hx, hb, hml, hown, hrt, hlk, hex, hK, hRm⟩ := id F
  intro w
  induction w with
  | zero => intro a0 x1 r3 M H locs cells slots ls h; cases h
  | succ w ih =>
    intro a0 x1 r3 M H locs cells slots ls h hR hl
    rw [fO_anyIs_2] at h
    refine lr_aload_n hx hb dO_anyIs_2 rfl (lv_at hl 2 rfl) ?_
    refine lr_ifnull (tgt := 25) hx hb dO_anyIs_3 (by decide) (fun e_2 => ?_) (fun a_1 e_2 => ?_)
    · replace h := rz_n1 e_2 h
      refine lv_iconst (v := 0) hx hb dO_anyIs_25 (by decide) ?_
      obtain ⟨c_3, h⟩ := rz_chk h
      cases h
      exact rt_i hx hb hlk hrt (Or.inr (Or.inr rfl)) c_3 hR dO_anyIs_26
    · replace h := rz_n2 e_2 h
      refine lv_aload_n hx hb dO_anyIs_6 rfl (lv_at hl 0 rfl) ?_
      refine lr_aload_n hx hb dO_anyIs_7 rfl (lv_at hl 2 rfl) ?_
      obtain ⟨c_4, h⟩ := rz_chk h
      obtain ⟨q_8, M_6, h_7, h⟩ := rz_c h
      refine rc_V (rest := []) (As := [va_rf r3]) hx hb (hl.1.trans hml.symm) hown hK hR hRm mfO_isTrue kl_O_36 hk_O rfl rfl c_4 (by simp [cat_rf, cat_i, cat_a, cat_l, cat_n]) (hC 49 _ _ _ _ h_7) dO_anyIs_8 (fun v1 H locs cells slots ev hR => ?_) (fun x1 q1 ce1 H locs cells slots ex hR g1 g2 g3 => ?_)
      · rcases h with ⟨v_5, ev2, h⟩ | ⟨e2, ee2, -⟩
        · cases ev.symm.trans ev2
          replace h := rz_i h
          obtain ⟨x_9, rfl, h⟩ := h
          dsimp only [Option.toList, List.cons_append, List.nil_append]
          refine lv_iload_n hx hb dO_anyIs_11 rfl (lv_at hl 1 rfl) ?_
          refine lv_icmp_ne (tgt := 17) hx hb dO_anyIs_12 (by decide) (fun c_10 => ?_) (fun c_10 => ?_)
          · replace h := rz_f c_10 h
            refine lr_aload_n hx hb dO_anyIs_17 rfl (lv_at hl 2 rfl) ?_
            obtain ⟨a_11, e_12, h⟩ := rz_d h
            rw [e_12]
            obtain ⟨c_13, h⟩ := rz_chk h
            refine rg_getP hx hb hown hK hR hk_N 4 (by decide) kf_O_72 rfl c_13 dO_anyIs_18 ?_
            refine lr_astore_n (lv' := [(3, va_rf (mP M_6 a_11 4)), (0, .ref a0), (1, .int x1)]) hx hb dO_anyIs_21 rfl hl (by decide) rfl (fun ls hl => ?_)
            refine lv_goto (tgt := 2) hx hb dO_anyIs_22 (by decide) ?_
            exact ih a0 x1 (mP M_6 a_11 4) _ _ _ _ _ _ h hR (lv_sub hl [1, 2, 0] rfl)
          · replace h := rz_t c_10 h
            refine lv_iconst (v := 1) hx hb dO_anyIs_15 (by decide) ?_
            obtain ⟨c_14, h⟩ := rz_chk h
            cases h
            exact rt_i hx hb hlk hrt (Or.inr (Or.inr rfl)) c_14 hR dO_anyIs_16
        · cases ev.symm.trans ee2
      · rcases h with ⟨v2, ev2, -⟩ | ⟨e2, ee2, h⟩
        · cases ex.symm.trans ev2
        · cases ex.symm.trans ee2
          cases h
          exact rt_x hlk hex hR g1 g2 g3
def fO_anyIs_0 (n d : Nat) (C : Cx) (a0 : Nat) (x1 : Int32) (r2 : Option Nat) (M : Mem) : Rz := fO_anyIs_2 n d C n a0 x1 r2 M
set_option maxRecDepth 100000 in
set_option maxHeartbeats 4000000 in
theorem tO_anyIs_0 {n : Nat} (F : FX p s m meth c G R M0 d "HeadCount$World" bO_anyIs 4 (some .boolean)) (hC : CBs l G d C) : ∀ (a0 : Nat) (x1 : Int32) (r2 : Option Nat) (M : Mem) (H : Heap) (locs : List Loc) (cells slots : Nat) (ls : Array Slot), fO_anyIs_0 n d C a0 x1 r2 M = some (r, M') → RL G M0 M H locs cells slots → lv_has ls 4 [(0, .ref a0), (1, .int x1), (2, va_rf r2)] → W p l e R s m args below meth c H locs cells slots (CQ G below s M0 r M') (F0 m 0 ls []) := by
  obtain ⟨hx, hb, hml, hown, hrt, hlk, hex, hK, hRm⟩ := id F
  intro a0 x1 r2 M H locs cells slots ls h hR hl
  unfold fO_anyIs_0 at h
  refine lr_aload_n hx hb dO_anyIs_0 rfl (lv_at hl 2 rfl) ?_
  refine lr_astore_n (lv' := [(3, va_rf r2), (0, .ref a0), (1, .int x1), (2, va_rf r2)]) hx hb dO_anyIs_1 rfl hl (by decide) (by first | (simp [cat_rf, cat_i, cat_a, cat_l, cat_n]; done) | (simp [cat_rf, cat_i, cat_a, cat_l, cat_n]; decide)) (fun ls hl => ?_)
  exact tO_anyIs_2 F hC n a0 x1 r2 _ _ _ _ _ _ h hR (lv_sub hl [1, 2, 0] rfl)
set_option maxRecDepth 100000 in
set_option maxHeartbeats 4000000 in
theorem sO_anyIs {l : Launch} {G : Gx} {n d : Nat} {C : Cx} (hC : CBs l G d C) (a0 : Nat) (x1 : Int32) (r2 : Option Nat) {M M' : Mem} {r : Option Value ⊕ Nat} (h : fO_anyIs_0 n d C a0 x1 r2 M = some (r, M')) : CB l G (d + 1) yO_anyIs [.ref a0, .int x1, va_rf r2] M r M' := by
  intro p e R s m below meth c hx hn hm hc hlk hK hR hcap hS hU hfr hlo hrc hrs
  obtain ⟨hb, hml, hrt, hex, hown⟩ := fx_of hn hm hc (hK.w mfO_anyIs.2.2.1 rfl #[])
  have F : FX p s m meth c G R M d "HeadCount$World" bO_anyIs 4 (some .boolean) := ⟨hx, hb, hml, hown, hrt, hlk, hex, hK, hfr, hlo, by rw [← hcap]; exact hrc, hrs⟩
  rw [hml]
  have hl := lv_entry ([.ref a0, .int x1, va_rf r2]) (n := 4) (by simp [lg_sl, cat_rf, cat_i, cat_a, cat_l, cat_n])
  rw [lg_entry_eq]
  generalize (lg_sl ([.ref a0, .int x1, va_rf r2]) ++ List.replicate (4 - (lg_sl ([.ref a0, .int x1, va_rf r2])).length) Slot.unset).toArray = ls at hl ⊢
  have hl : lv_has ls 4 [(0, .ref a0), (1, .int x1), (2, va_rf r2)] := by simpa [lv_args, cat_rf, cat_i, cat_a, cat_l, cat_n] using hl
  exact tO_anyIs_0 F hC a0 x1 r2 _ _ _ _ _ _ h (RL.start hR hcap hS hU) (lv_sub hl [0, 1, 2] rfl)
def fO_anyChoiceMakes_74 (n d : Nat) (C : Cx) (k38 : Nat → Int32 → Option Nat → Int32 → Int32 → Int32 → Int32 → Int32 → Mem → Rz) (a0 : Nat) (x1 : Int32) (r2 : Option Nat) (x3 : Int32) (x4 : Int32) (x6 : Int32) (x8 : Int32) (xs0 : Int32) (M : Mem) : Rz := k38 a0 x1 r2 x3 x4 x6 xs0 (x8 + 1) M
set_option maxRecDepth 100000 in
set_option maxHeartbeats 4000000 in
theorem tO_anyChoiceMakes_74 {n : Nat} {k38 : Nat → Int32 → Option Nat → Int32 → Int32 → Int32 → Int32 → Int32 → Mem → Rz} (F : FX p s m meth c G R M0 d "HeadCount$World" bO_anyChoiceMakes 9 (some .boolean)) (hC : CBs l G d C) (hk38 : ∀ (a0 : Nat) (x1 : Int32) (r2 : Option Nat) (x3 : Int32) (x4 : Int32) (x6 : Int32) (x7 : Int32) (x8 : Int32) (M : Mem) (H : Heap) (locs : List Loc) (cells slots : Nat) (ls : Array Slot), k38 a0 x1 r2 x3 x4 x6 x7 x8 M = some (r, M') → RL G M0 M H locs cells slots → lv_has ls 9 [(0, .ref a0), (1, .int x1), (2, va_rf r2), (3, .int x3), (4, .int x4), (6, .int x6), (7, .int x7), (8, .int x8)] → W p l e R s m args below meth c H locs cells slots (CQ G below s M0 r M') (F0 m 38 ls [])) : ∀ (a0 : Nat) (x1 : Int32) (r2 : Option Nat) (x3 : Int32) (x4 : Int32) (x6 : Int32) (x8 : Int32) (xs0 : Int32) (M : Mem) (H : Heap) (locs : List Loc) (cells slots : Nat) (ls : Array Slot), fO_anyChoiceMakes_74 n d C k38 a0 x1 r2 x3 x4 x6 x8 xs0 M = some (r, M') → RL G M0 M H locs cells slots → lv_has ls 9 [(0, .ref a0), (1, .int x1), (2, va_rf r2), (3, .int x3), (4, .int x4), (6, .int x6), (8, .int x8)] → W p l e R s m args below meth c H locs cells slots (CQ G below s M0 r M') (F0 m 74 ls [.int xs0]) := by
  obtain ⟨hx, hb, hml, hown, hrt, hlk, hex, hK, hRm⟩ := id F
  intro a0 x1 r2 x3 x4 x6 x8 xs0 M H locs cells slots ls h hR hl
  unfold fO_anyChoiceMakes_74 at h
  refine lv_istore (lv' := [(7, .int xs0), (0, .ref a0), (1, .int x1), (2, va_rf r2), (3, .int x3), (4, .int x4), (6, .int x6), (8, .int x8)]) hx hb dO_anyChoiceMakes_74 hl (by decide) rfl (fun ls hl => ?_)
  refine lv_iinc (k := 7) (v := x8 + 1) (lv' := [(8, .int (x8 + 1)), (7, .int xs0), (0, .ref a0), (1, .int x1), (2, va_rf r2), (3, .int x3), (4, .int x4), (6, .int x6)]) hx hb dO_anyChoiceMakes_76 hl rfl (by rw [show Int32.ofInt 1 = 1 from by decide]) (by decide) rfl (fun ls hl => ?_)
  refine lv_goto (tgt := 38) hx hb dO_anyChoiceMakes_79 (by decide) ?_
  exact hk38 a0 x1 r2 x3 x4 x6 xs0 (x8 + 1) _ _ _ _ _ _ h hR (lv_sub hl [2, 3, 4, 5, 6, 7, 1, 0] rfl)
def fO_anyChoiceMakes_82 (n d : Nat) (C : Cx) (a0 : Nat) (x3 : Int32) (x4 : Int32) (x7 : Int32) (M : Mem) : Rz := if mK M a0 = 3 then (rzC (C 55 [.ref a0, .int x3, .int x4] M) fun v_2 M_3 => (rzV v_2 (if fits .boolean (.int x7) = true then (some (.inl (some (.int x7)), M_3)) else none))) else none
set_option maxRecDepth 100000 in
set_option maxHeartbeats 4000000 in
theorem tO_anyChoiceMakes_82 {n : Nat} (F : FX p s m meth c G R M0 d "HeadCount$World" bO_anyChoiceMakes 9 (some .boolean)) (hC : CBs l G d C) : ∀ (a0 : Nat) (x3 : Int32) (x4 : Int32) (x7 : Int32) (M : Mem) (H : Heap) (locs : List Loc) (cells slots : Nat) (ls : Array Slot), fO_anyChoiceMakes_82 n d C a0 x3 x4 x7 M = some (r, M') → RL G M0 M H locs cells slots → lv_has ls 9 [(0, .ref a0), (3, .int x3), (4, .int x4), (7, .int x7)] → W p l e R s m args below meth c H locs cells slots (CQ G below s M0 r M') (F0 m 82 ls []) := by
  obtain ⟨hx, hb, hml, hown, hrt, hlk, hex, hK, hRm⟩ := id F
  intro a0 x3 x4 x7 M H locs cells slots ls h hR hl
  unfold fO_anyChoiceMakes_82 at h
  refine lv_aload_n hx hb dO_anyChoiceMakes_82 rfl (lv_at hl 0 rfl) ?_
  refine lv_iload_n hx hb dO_anyChoiceMakes_83 rfl (lv_at hl 1 rfl) ?_
  refine lv_iload hx hb dO_anyChoiceMakes_84 (lv_at hl 2 rfl) ?_
  obtain ⟨c_1, h⟩ := rz_chk h
  obtain ⟨q_5, M_3, h_4, h⟩ := rz_c h
  refine rc_V (rest := []) (As := [.int x3, .int x4]) hx hb (hl.1.trans hml.symm) hown hK hR hRm mfO_bind kl_O_51 hk_O rfl rfl c_1 (by simp [cat_rf, cat_i, cat_a, cat_l, cat_n]) (hC 55 _ _ _ _ h_4) dO_anyChoiceMakes_86 (fun v1 H locs cells slots ev hR => ?_) (fun x1 q1 ce1 H locs cells slots ex hR g1 g2 g3 => ?_)
  · rcases h with ⟨v_2, ev2, h⟩ | ⟨e2, ee2, -⟩
    · cases ev.symm.trans ev2
      replace h := rz_v h
      obtain ⟨rfl, h⟩ := h
      dsimp only [Option.toList, List.cons_append, List.nil_append]
      refine lv_iload hx hb dO_anyChoiceMakes_89 (lv_at hl 3 rfl) ?_
      obtain ⟨c_6, h⟩ := rz_chk h
      cases h
      exact rt_i hx hb hlk hrt (Or.inr (Or.inr rfl)) c_6 hR dO_anyChoiceMakes_91
    · cases ev.symm.trans ee2
  · rcases h with ⟨v2, ev2, -⟩ | ⟨e2, ee2, h⟩
    · cases ex.symm.trans ev2
    · cases ex.symm.trans ee2
      cases h
      exact rt_x hlk hex hR g1 g2 g3
def fO_anyChoiceMakes_38 (n d : Nat) (C : Cx) : Nat → Nat → Int32 → Option Nat → Int32 → Int32 → Int32 → Int32 → Int32 → Mem → Rz
  | 0, _, _, _, _, _, _, _, _, _ => none
  | w + 1, a0, x1, r2, x3, x4, x6, x7, x8, M => if x6 ≤ x8 then (fO_anyChoiceMakes_82 n d C a0 x3 x4 x7 M) else (if x7 = 0 then (if mK M a0 = 3 then (rzC (C 55 [.ref a0, .int x3, .int x8] M) fun v_4 M_5 => (rzV v_4 (rzD r2 fun a_8 => (if mK M_5 a_8 = 4 then (if mK M_5 a0 = 3 then (rzC (C 49 [.ref a0, va_rf (mP M_5 a_8 3)] M_5) fun v_12 M_13 => (rzI v_12 fun x_16 => (if x_16 = x1 then (fO_anyChoiceMakes_74 n d C (fO_anyChoiceMakes_38 n d C w) a0 x1 r2 x3 x4 x6 x8 1 M_13) else (fO_anyChoiceMakes_74 n d C (fO_anyChoiceMakes_38 n d C w) a0 x1 r2 x3 x4 x6 x8 0 M_13)))) else none) else none)))) else none) else (fO_anyChoiceMakes_82 n d C a0 x3 x4 x7 M))
set_option maxRecDepth 100000 in
set_option maxHeartbeats 4000000 in
theorem tO_anyChoiceMakes_38 {n : Nat} (F : FX p s m meth c G R M0 d "HeadCount$World" bO_anyChoiceMakes 9 (some .boolean)) (hC : CBs l G d C) : ∀ (w : Nat) (a0 : Nat) (x1 : Int32) (r2 : Option Nat) (x3 : Int32) (x4 : Int32) (x6 : Int32) (x7 : Int32) (x8 : Int32) (M : Mem) (H : Heap) (locs : List Loc) (cells slots : Nat) (ls : Array Slot), fO_anyChoiceMakes_38 n d C w a0 x1 r2 x3 x4 x6 x7 x8 M = some (r, M') → RL G M0 M H locs cells slots → lv_has ls 9 [(0, .ref a0), (1, .int x1), (2, va_rf r2), (3, .int x3), (4, .int x4), (6, .int x6), (7, .int x7), (8, .int x8)] → W p l e R s m args below meth c H locs cells slots (CQ G below s M0 r M') (F0 m 38 ls []) := by
  obtain ⟨hx, hb, hml, hown, hrt, hlk, hex, hK, hRm⟩ := id F
  intro w
  induction w with
  | zero => intro a0 x1 r2 x3 x4 x6 x7 x8 M H locs cells slots ls h; cases h
  | succ w ih =>
    intro a0 x1 r2 x3 x4 x6 x7 x8 M H locs cells slots ls h hR hl
    rw [fO_anyChoiceMakes_38] at h
    refine lv_iload hx hb dO_anyChoiceMakes_38 (lv_at hl 7 rfl) ?_
    refine lv_iload hx hb dO_anyChoiceMakes_40 (lv_at hl 5 rfl) ?_
    refine lv_icmp_ge (tgt := 82) hx hb dO_anyChoiceMakes_42 (by decide) (fun c_1 => ?_) (fun c_1 => ?_)
    · replace h := rz_t c_1 h
      exact tO_anyChoiceMakes_82 F hC a0 x3 x4 x7 _ _ _ _ _ _ h hR (lv_sub hl [0, 3, 4, 6] rfl)
    · replace h := rz_f c_1 h
      refine lv_iload hx hb dO_anyChoiceMakes_45 (lv_at hl 6 rfl) ?_
      refine lv_if_ne (tgt := 82) hx hb dO_anyChoiceMakes_47 (by decide) (fun c_2 => ?_) (fun c_2 => ?_)
      · replace h := rz_f c_2 h
        exact tO_anyChoiceMakes_82 F hC a0 x3 x4 x7 _ _ _ _ _ _ h hR (lv_sub hl [0, 3, 4, 6] rfl)
      · replace h := rz_t c_2 h
        refine lv_aload_n hx hb dO_anyChoiceMakes_50 rfl (lv_at hl 0 rfl) ?_
        refine lv_iload_n hx hb dO_anyChoiceMakes_51 rfl (lv_at hl 3 rfl) ?_
        refine lv_iload hx hb dO_anyChoiceMakes_52 (lv_at hl 7 rfl) ?_
        obtain ⟨c_3, h⟩ := rz_chk h
        obtain ⟨q_7, M_5, h_6, h⟩ := rz_c h
        refine rc_V (rest := []) (As := [.int x3, .int x8]) hx hb (hl.1.trans hml.symm) hown hK hR hRm mfO_bind kl_O_51 hk_O rfl rfl c_3 (by simp [cat_rf, cat_i, cat_a, cat_l, cat_n]) (hC 55 _ _ _ _ h_6) dO_anyChoiceMakes_54 (fun v1 H locs cells slots ev hR => ?_) (fun x1 q1 ce1 H locs cells slots ex hR g1 g2 g3 => ?_)
        · rcases h with ⟨v_4, ev2, h⟩ | ⟨e2, ee2, -⟩
          · cases ev.symm.trans ev2
            replace h := rz_v h
            obtain ⟨rfl, h⟩ := h
            dsimp only [Option.toList, List.cons_append, List.nil_append]
            refine lv_aload_n hx hb dO_anyChoiceMakes_57 rfl (lv_at hl 0 rfl) ?_
            refine lr_aload_n hx hb dO_anyChoiceMakes_58 rfl (lv_at hl 2 rfl) ?_
            obtain ⟨a_8, e_9, h⟩ := rz_d h
            rw [e_9]
            obtain ⟨c_10, h⟩ := rz_chk h
            refine rg_getP hx hb hown hK hR hk_N 3 (by decide) kf_O_55 rfl c_10 dO_anyChoiceMakes_59 ?_
            obtain ⟨c_11, h⟩ := rz_chk h
            obtain ⟨q_15, M_13, h_14, h⟩ := rz_c h
            refine rc_V (rest := []) (As := [va_rf (mP M_5 a_8 3)]) hx hb (hl.1.trans hml.symm) hown hK hR hRm mfO_isTrue kl_O_36 hk_O rfl rfl c_11 (by simp [cat_rf, cat_i, cat_a, cat_l, cat_n]) (hC 49 _ _ _ _ h_14) dO_anyChoiceMakes_62 (fun v1 H locs cells slots ev hR => ?_) (fun x1 q1 ce1 H locs cells slots ex hR g1 g2 g3 => ?_)
            · rcases h with ⟨v_12, ev2, h⟩ | ⟨e2, ee2, -⟩
              · cases ev.symm.trans ev2
                replace h := rz_i h
                obtain ⟨x_16, rfl, h⟩ := h
                dsimp only [Option.toList, List.cons_append, List.nil_append]
                refine lv_iload_n hx hb dO_anyChoiceMakes_65 rfl (lv_at hl 1 rfl) ?_
                refine lv_icmp_ne (tgt := 73) hx hb dO_anyChoiceMakes_66 (by decide) (fun c_17 => ?_) (fun c_17 => ?_)
                · replace h := rz_f c_17 h
                  refine lv_iconst (v := 0) hx hb dO_anyChoiceMakes_73 (by decide) ?_
                  exact tO_anyChoiceMakes_74 F hC ih a0 x1 r2 x3 x4 x6 x8 0 _ _ _ _ _ _ h hR (lv_sub hl [0, 1, 2, 3, 4, 5, 7] rfl)
                · replace h := rz_t c_17 h
                  refine lv_iconst (v := 1) hx hb dO_anyChoiceMakes_69 (by decide) ?_
                  refine lv_goto (tgt := 74) hx hb dO_anyChoiceMakes_70 (by decide) ?_
                  exact tO_anyChoiceMakes_74 F hC ih a0 x1 r2 x3 x4 x6 x8 1 _ _ _ _ _ _ h hR (lv_sub hl [0, 1, 2, 3, 4, 5, 7] rfl)
              · cases ev.symm.trans ee2
            · rcases h with ⟨v2, ev2, -⟩ | ⟨e2, ee2, h⟩
              · cases ex.symm.trans ev2
              · cases ex.symm.trans ee2
                cases h
                exact rt_x hlk hex hR g1 g2 g3
          · cases ev.symm.trans ee2
        · rcases h with ⟨v2, ev2, -⟩ | ⟨e2, ee2, h⟩
          · cases ex.symm.trans ev2
          · cases ex.symm.trans ee2
            cases h
            exact rt_x hlk hex hR g1 g2 g3
def fO_anyChoiceMakes_0 (n d : Nat) (C : Cx) (a0 : Nat) (x1 : Int32) (r2 : Option Nat) (M : Mem) : Rz := rzD r2 fun a_1 => (if mK M a_1 = 4 then (if mK M a0 = 3 then (rzC (C 52 [.ref a0, .int (mI M a_1 2)] M) fun v_5 M_6 => (rzI v_5 fun x_9 => (rzC (C 53 [.int (mI M a_1 2)] M_6) fun v_10 M_11 => (rzI v_10 fun x_14 => (if mK M_11 a0 = 3 then (rzC (C 54 [.int (mI M a_1 2), .int (mI M_11 a0 0)] M_11) fun v_16 M_17 => (rzI v_16 fun x_20 => (fO_anyChoiceMakes_38 n d C n a0 x1 r2 (mI M a_1 2) x_9 (x_14 + x_20) 0 x_14 M_17))) else none))))) else none) else none)
set_option maxRecDepth 100000 in
set_option maxHeartbeats 4000000 in
theorem tO_anyChoiceMakes_0 {n : Nat} (F : FX p s m meth c G R M0 d "HeadCount$World" bO_anyChoiceMakes 9 (some .boolean)) (hC : CBs l G d C) : ∀ (a0 : Nat) (x1 : Int32) (r2 : Option Nat) (M : Mem) (H : Heap) (locs : List Loc) (cells slots : Nat) (ls : Array Slot), fO_anyChoiceMakes_0 n d C a0 x1 r2 M = some (r, M') → RL G M0 M H locs cells slots → lv_has ls 9 [(0, .ref a0), (1, .int x1), (2, va_rf r2)] → W p l e R s m args below meth c H locs cells slots (CQ G below s M0 r M') (F0 m 0 ls []) := by
  obtain ⟨hx, hb, hml, hown, hrt, hlk, hex, hK, hRm⟩ := id F
  intro a0 x1 r2 M H locs cells slots ls h hR hl
  unfold fO_anyChoiceMakes_0 at h
  refine lr_aload_n hx hb dO_anyChoiceMakes_0 rfl (lv_at hl 2 rfl) ?_
  obtain ⟨a_1, e_2, h⟩ := rz_d h
  rw [e_2]
  obtain ⟨c_3, h⟩ := rz_chk h
  refine rg_getI hx hb hown hK hR hk_N 2 (by decide) kf_O_40 rfl c_3 dO_anyChoiceMakes_1 ?_
  refine lv_istore_n (lv' := [(3, .int (mI M a_1 2)), (0, .ref a0), (1, .int x1), (2, va_rf r2)]) hx hb dO_anyChoiceMakes_4 rfl hl (by decide) (by first | (simp [cat_rf, cat_i, cat_a, cat_l, cat_n]; done) | (simp [cat_rf, cat_i, cat_a, cat_l, cat_n]; decide)) (fun ls hl => ?_)
  refine lv_aload_n hx hb dO_anyChoiceMakes_5 rfl (lv_at hl 1 rfl) ?_
  refine lv_iload_n hx hb dO_anyChoiceMakes_6 rfl (lv_at hl 0 rfl) ?_
  obtain ⟨c_4, h⟩ := rz_chk h
  obtain ⟨q_8, M_6, h_7, h⟩ := rz_c h
  refine rc_V (rest := []) (As := [.int (mI M a_1 2)]) hx hb (hl.1.trans hml.symm) hown hK hR hRm mfO_value kl_O_75 hk_O rfl rfl c_4 (by simp [cat_rf, cat_i, cat_a, cat_l, cat_n]) (hC 52 _ _ _ _ h_7) dO_anyChoiceMakes_7 (fun v1 H locs cells slots ev hR => ?_) (fun x1 q1 ce1 H locs cells slots ex hR g1 g2 g3 => ?_)
  · rcases h with ⟨v_5, ev2, h⟩ | ⟨e2, ee2, -⟩
    · cases ev.symm.trans ev2
      replace h := rz_i h
      obtain ⟨x_9, rfl, h⟩ := h
      dsimp only [Option.toList, List.cons_append, List.nil_append]
      refine lv_istore (lv' := [(4, .int x_9), (3, .int (mI M a_1 2)), (0, .ref a0), (1, .int x1), (2, va_rf r2)]) hx hb dO_anyChoiceMakes_10 hl (by decide) rfl (fun ls hl => ?_)
      refine lv_iload_n hx hb dO_anyChoiceMakes_12 rfl (lv_at hl 1 rfl) ?_
      obtain ⟨q_13, M_11, h_12, h⟩ := rz_c h
      refine rc_S (rest := []) (As := [.int (mI M a_1 2)]) hx hb (hl.1.trans hml.symm) hown hK hR hRm mfO_firstChoice kl_O_43 rfl (by simp [cat_rf, cat_i, cat_a, cat_l, cat_n]) (hC 53 _ _ _ _ h_12) dO_anyChoiceMakes_13 (fun v1 H locs cells slots ev hR => ?_) (fun x1 q1 ce1 H locs cells slots ex hR g1 g2 g3 => ?_)
      · rcases h with ⟨v_10, ev2, h⟩ | ⟨e2, ee2, -⟩
        · cases ev.symm.trans ev2
          replace h := rz_i h
          obtain ⟨x_14, rfl, h⟩ := h
          dsimp only [Option.toList, List.cons_append, List.nil_append]
          refine lv_istore (lv' := [(5, .int x_14), (4, .int x_9), (3, .int (mI M a_1 2)), (0, .ref a0), (1, .int x1), (2, va_rf r2)]) hx hb dO_anyChoiceMakes_16 hl (by decide) rfl (fun ls hl => ?_)
          refine lv_iload hx hb dO_anyChoiceMakes_18 (lv_at hl 0 rfl) ?_
          refine lv_iload_n hx hb dO_anyChoiceMakes_20 rfl (lv_at hl 2 rfl) ?_
          refine lv_aload_n hx hb dO_anyChoiceMakes_21 rfl (lv_at hl 3 rfl) ?_
          obtain ⟨c_15, h⟩ := rz_chk h
          refine rg_getI hx hb hown hK hR hk_O 0 (by decide) kf_O_23 rfl c_15 dO_anyChoiceMakes_22 ?_
          obtain ⟨q_19, M_17, h_18, h⟩ := rz_c h
          refine rc_S (rest := [.int x_14]) (As := [.int (mI M a_1 2), .int (mI M_11 a0 0)]) hx hb (hl.1.trans hml.symm) hown hK hR hRm mfO_choices kl_O_47 rfl (by simp [cat_rf, cat_i, cat_a, cat_l, cat_n]) (hC 54 _ _ _ _ h_18) dO_anyChoiceMakes_25 (fun v1 H locs cells slots ev hR => ?_) (fun x1 q1 ce1 H locs cells slots ex hR g1 g2 g3 => ?_)
          · rcases h with ⟨v_16, ev2, h⟩ | ⟨e2, ee2, -⟩
            · cases ev.symm.trans ev2
              replace h := rz_i h
              obtain ⟨x_20, rfl, h⟩ := h
              dsimp only [Option.toList, List.cons_append, List.nil_append]
              refine lv_iadd hx hb dO_anyChoiceMakes_28 ?_
              refine lv_istore (lv' := [(6, .int (x_14 + x_20)), (5, .int x_14), (4, .int x_9), (3, .int (mI M a_1 2)), (0, .ref a0), (1, .int x1), (2, va_rf r2)]) hx hb dO_anyChoiceMakes_29 hl (by decide) rfl (fun ls hl => ?_)
              refine lv_iconst (v := 0) hx hb dO_anyChoiceMakes_31 (by decide) ?_
              refine lv_istore (lv' := [(7, .int 0), (6, .int (x_14 + x_20)), (5, .int x_14), (4, .int x_9), (3, .int (mI M a_1 2)), (0, .ref a0), (1, .int x1), (2, va_rf r2)]) hx hb dO_anyChoiceMakes_32 hl (by decide) rfl (fun ls hl => ?_)
              refine lv_iload hx hb dO_anyChoiceMakes_34 (lv_at hl 2 rfl) ?_
              refine lv_istore (lv' := [(8, .int x_14), (7, .int 0), (6, .int (x_14 + x_20)), (5, .int x_14), (4, .int x_9), (3, .int (mI M a_1 2)), (0, .ref a0), (1, .int x1), (2, va_rf r2)]) hx hb dO_anyChoiceMakes_36 hl (by decide) rfl (fun ls hl => ?_)
              exact tO_anyChoiceMakes_38 F hC n a0 x1 r2 (mI M a_1 2) x_9 (x_14 + x_20) 0 x_14 _ _ _ _ _ _ h hR (lv_sub hl [6, 7, 8, 5, 4, 2, 1, 0] rfl)
            · cases ev.symm.trans ee2
          · rcases h with ⟨v2, ev2, -⟩ | ⟨e2, ee2, h⟩
            · cases ex.symm.trans ev2
            · cases ex.symm.trans ee2
              cases h
              exact rt_x hlk hex hR g1 g2 g3
        · cases ev.symm.trans ee2
      · rcases h with ⟨v2, ev2, -⟩ | ⟨e2, ee2, h⟩
        · cases ex.symm.trans ev2
        · cases ex.symm.trans ee2
          cases h
          exact rt_x hlk hex hR g1 g2 g3
    · cases ev.symm.trans ee2
  · rcases h with ⟨v2, ev2, -⟩ | ⟨e2, ee2, h⟩
    · cases ex.symm.trans ev2
    · cases ex.symm.trans ee2
      cases h
      exact rt_x hlk hex hR g1 g2 g3
set_option maxRecDepth 100000 in
set_option maxHeartbeats 4000000 in
theorem sO_anyChoiceMakes {l : Launch} {G : Gx} {n d : Nat} {C : Cx} (hC : CBs l G d C) (a0 : Nat) (x1 : Int32) (r2 : Option Nat) {M M' : Mem} {r : Option Value ⊕ Nat} (h : fO_anyChoiceMakes_0 n d C a0 x1 r2 M = some (r, M')) : CB l G (d + 1) yO_anyChoiceMakes [.ref a0, .int x1, va_rf r2] M r M' := by
  intro p e R s m below meth c hx hn hm hc hlk hK hR hcap hS hU hfr hlo hrc hrs
  obtain ⟨hb, hml, hrt, hex, hown⟩ := fx_of hn hm hc (hK.w mfO_anyChoiceMakes.2.2.1 rfl #[])
  have F : FX p s m meth c G R M d "HeadCount$World" bO_anyChoiceMakes 9 (some .boolean) := ⟨hx, hb, hml, hown, hrt, hlk, hex, hK, hfr, hlo, by rw [← hcap]; exact hrc, hrs⟩
  rw [hml]
  have hl := lv_entry ([.ref a0, .int x1, va_rf r2]) (n := 9) (by simp [lg_sl, cat_rf, cat_i, cat_a, cat_l, cat_n])
  rw [lg_entry_eq]
  generalize (lg_sl ([.ref a0, .int x1, va_rf r2]) ++ List.replicate (9 - (lg_sl ([.ref a0, .int x1, va_rf r2])).length) Slot.unset).toArray = ls at hl ⊢
  have hl : lv_has ls 9 [(0, .ref a0), (1, .int x1), (2, va_rf r2)] := by simpa [lv_args, cat_rf, cat_i, cat_a, cat_l, cat_n] using hl
  exact tO_anyChoiceMakes_0 F hC a0 x1 r2 _ _ _ _ _ _ h (RL.start hR hcap hS hU) (lv_sub hl [0, 1, 2] rfl)
def fO_value_23 (n d : Nat) (C : Cx) (xs0 : Int32) (M : Mem) : Rz := some (.inl (some (.int xs0)), M)
set_option maxRecDepth 100000 in
set_option maxHeartbeats 4000000 in
theorem tO_value_23 {n : Nat} (F : FX p s m meth c G R M0 d "HeadCount$World" bO_value 2 (some .int)) (hC : CBs l G d C) : ∀ (xs0 : Int32) (M : Mem) (H : Heap) (locs : List Loc) (cells slots : Nat) (ls : Array Slot), fO_value_23 n d C xs0 M = some (r, M') → RL G M0 M H locs cells slots → lv_has ls 2 [] → W p l e R s m args below meth c H locs cells slots (CQ G below s M0 r M') (F0 m 23 ls [.int xs0]) := by
  obtain ⟨hx, hb, hml, hown, hrt, hlk, hex, hK, hRm⟩ := id F
  intro xs0 M H locs cells slots ls h hR hl
  unfold fO_value_23 at h
  cases h
  exact rt_i hx hb hlk hrt (Or.inl rfl) rfl hR dO_value_23
def fO_value_22 (n d : Nat) (C : Cx) (M : Mem) : Rz := fO_value_23 n d C 0 M
set_option maxRecDepth 100000 in
set_option maxHeartbeats 4000000 in
theorem tO_value_22 {n : Nat} (F : FX p s m meth c G R M0 d "HeadCount$World" bO_value 2 (some .int)) (hC : CBs l G d C) : ∀ (M : Mem) (H : Heap) (locs : List Loc) (cells slots : Nat) (ls : Array Slot), fO_value_22 n d C M = some (r, M') → RL G M0 M H locs cells slots → lv_has ls 2 [] → W p l e R s m args below meth c H locs cells slots (CQ G below s M0 r M') (F0 m 22 ls []) := by
  obtain ⟨hx, hb, hml, hown, hrt, hlk, hex, hK, hRm⟩ := id F
  intro M H locs cells slots ls h hR hl
  unfold fO_value_22 at h
  refine lv_iconst (v := 0) hx hb dO_value_22 (by decide) ?_
  exact tO_value_23 F hC 0 _ _ _ _ _ _ h hR (lv_sub hl [] rfl)
def fO_value_0 (n d : Nat) (C : Cx) (a0 : Nat) (x1 : Int32) (M : Mem) : Rz := if x1 < 0 then (fO_value_22 n d C M) else (if mK M a0 = 3 then (rzD (mP M a0 2) fun a_3 => (if mK M a_3 = 21 then (if (nI (mL M a_3)) ≤ x1 then (fO_value_22 n d C M) else (if inA x1 (mL M a_3) then (fO_value_23 n d C (mI M a_3 x1.toNatClampNeg) M) else none)) else none)) else none)
set_option maxRecDepth 100000 in
set_option maxHeartbeats 4000000 in
theorem tO_value_0 {n : Nat} (F : FX p s m meth c G R M0 d "HeadCount$World" bO_value 2 (some .int)) (hC : CBs l G d C) : ∀ (a0 : Nat) (x1 : Int32) (M : Mem) (H : Heap) (locs : List Loc) (cells slots : Nat) (ls : Array Slot), fO_value_0 n d C a0 x1 M = some (r, M') → RL G M0 M H locs cells slots → lv_has ls 2 [(0, .ref a0), (1, .int x1)] → W p l e R s m args below meth c H locs cells slots (CQ G below s M0 r M') (F0 m 0 ls []) := by
  obtain ⟨hx, hb, hml, hown, hrt, hlk, hex, hK, hRm⟩ := id F
  intro a0 x1 M H locs cells slots ls h hR hl
  unfold fO_value_0 at h
  refine lv_iload_n hx hb dO_value_0 rfl (lv_at hl 1 rfl) ?_
  refine lv_if_lt (tgt := 22) hx hb dO_value_1 (by decide) (fun c_1 => ?_) (fun c_1 => ?_)
  · replace h := rz_t c_1 h
    exact tO_value_22 F hC _ _ _ _ _ _ h hR (lv_sub hl [] rfl)
  · replace h := rz_f c_1 h
    refine lv_iload_n hx hb dO_value_4 rfl (lv_at hl 1 rfl) ?_
    refine lv_aload_n hx hb dO_value_5 rfl (lv_at hl 0 rfl) ?_
    obtain ⟨c_2, h⟩ := rz_chk h
    refine rg_getP hx hb hown hK hR hk_O 2 (by decide) kf_O_17 rfl c_2 dO_value_6 ?_
    obtain ⟨a_3, e_4, h⟩ := rz_d h
    rw [e_4]
    obtain ⟨c_5, h⟩ := rz_chk h
    refine rg_alen hx hb hK hR 21 c_5 (by decide) (by decide) dO_value_9 ?_
    refine lv_icmp_ge (tgt := 22) hx hb dO_value_10 (by decide) (fun c_6 => ?_) (fun c_6 => ?_)
    · replace h := rz_t c_6 h
      exact tO_value_22 F hC _ _ _ _ _ _ h hR (lv_sub hl [] rfl)
    · replace h := rz_f c_6 h
      refine lv_aload_n hx hb dO_value_13 rfl (lv_at hl 0 rfl) ?_
      refine rg_getP hx hb hown hK hR hk_O 2 (by decide) kf_O_17 rfl c_2 dO_value_14 ?_
      refine lv_iload_n hx hb dO_value_17 rfl (lv_at hl 1 rfl) ?_
      rw [e_4]
      obtain ⟨c_7, h⟩ := rz_chk h
      refine rg_iald hx hb hK hR c_5 c_7 dO_value_18 ?_
      refine lv_goto (tgt := 23) hx hb dO_value_19 (by decide) ?_
      exact tO_value_23 F hC (mI M a_3 x1.toNatClampNeg) _ _ _ _ _ _ h hR (lv_sub hl [] rfl)
set_option maxRecDepth 100000 in
set_option maxHeartbeats 4000000 in
theorem sO_value {l : Launch} {G : Gx} {n d : Nat} {C : Cx} (hC : CBs l G d C) (a0 : Nat) (x1 : Int32) {M M' : Mem} {r : Option Value ⊕ Nat} (h : fO_value_0 n d C a0 x1 M = some (r, M')) : CB l G (d + 1) yO_value [.ref a0, .int x1] M r M' := by
  intro p e R s m below meth c hx hn hm hc hlk hK hR hcap hS hU hfr hlo hrc hrs
  obtain ⟨hb, hml, hrt, hex, hown⟩ := fx_of hn hm hc (hK.w mfO_value.2.2.1 rfl #[])
  have F : FX p s m meth c G R M d "HeadCount$World" bO_value 2 (some .int) := ⟨hx, hb, hml, hown, hrt, hlk, hex, hK, hfr, hlo, by rw [← hcap]; exact hrc, hrs⟩
  rw [hml]
  have hl := lv_entry ([.ref a0, .int x1]) (n := 2) (by simp [lg_sl, cat_rf, cat_i, cat_a, cat_l, cat_n])
  rw [lg_entry_eq]
  generalize (lg_sl ([.ref a0, .int x1]) ++ List.replicate (2 - (lg_sl ([.ref a0, .int x1])).length) Slot.unset).toArray = ls at hl ⊢
  have hl : lv_has ls 2 [(0, .ref a0), (1, .int x1)] := by simpa [lv_args, cat_rf, cat_i, cat_a, cat_l, cat_n] using hl
  exact tO_value_0 F hC a0 x1 _ _ _ _ _ _ h (RL.start hR hcap hS hU) (lv_sub hl [0, 1] rfl)
def fO_firstChoice_11 (n d : Nat) (C : Cx) (xs0 : Int32) (M : Mem) : Rz := some (.inl (some (.int xs0)), M)
set_option maxRecDepth 100000 in
set_option maxHeartbeats 4000000 in
theorem tO_firstChoice_11 {n : Nat} (F : FX p s m meth c G R M0 d "HeadCount$World" bO_firstChoice 1 (some .int)) (hC : CBs l G d C) : ∀ (xs0 : Int32) (M : Mem) (H : Heap) (locs : List Loc) (cells slots : Nat) (ls : Array Slot), fO_firstChoice_11 n d C xs0 M = some (r, M') → RL G M0 M H locs cells slots → lv_has ls 1 [] → W p l e R s m args below meth c H locs cells slots (CQ G below s M0 r M') (F0 m 11 ls [.int xs0]) := by
  obtain ⟨hx, hb, hml, hown, hrt, hlk, hex, hK, hRm⟩ := id F
  intro xs0 M H locs cells slots ls h hR hl
  unfold fO_firstChoice_11 at h
  cases h
  exact rt_i hx hb hlk hrt (Or.inl rfl) rfl hR dO_firstChoice_11
def fO_firstChoice_0 (n d : Nat) (C : Cx) (x0 : Int32) (M : Mem) : Rz := if 3 ≤ x0 then (fO_firstChoice_11 n d C 0 M) else (fO_firstChoice_11 n d C ((-8)) M)
set_option maxRecDepth 100000 in
set_option maxHeartbeats 4000000 in
theorem tO_firstChoice_0 {n : Nat} (F : FX p s m meth c G R M0 d "HeadCount$World" bO_firstChoice 1 (some .int)) (hC : CBs l G d C) : ∀ (x0 : Int32) (M : Mem) (H : Heap) (locs : List Loc) (cells slots : Nat) (ls : Array Slot), fO_firstChoice_0 n d C x0 M = some (r, M') → RL G M0 M H locs cells slots → lv_has ls 1 [(0, .int x0)] → W p l e R s m args below meth c H locs cells slots (CQ G below s M0 r M') (F0 m 0 ls []) := by
  obtain ⟨hx, hb, hml, hown, hrt, hlk, hex, hK, hRm⟩ := id F
  intro x0 M H locs cells slots ls h hR hl
  unfold fO_firstChoice_0 at h
  refine lv_iload_n hx hb dO_firstChoice_0 rfl (lv_at hl 0 rfl) ?_
  refine lv_iconst (v := 3) hx hb dO_firstChoice_1 (by decide) ?_
  refine lv_icmp_ge (tgt := 10) hx hb dO_firstChoice_2 (by decide) (fun c_1 => ?_) (fun c_1 => ?_)
  · replace h := rz_t c_1 h
    refine lv_iconst (v := 0) hx hb dO_firstChoice_10 (by decide) ?_
    exact tO_firstChoice_11 F hC 0 _ _ _ _ _ _ h hR (lv_sub hl [] rfl)
  · replace h := rz_f c_1 h
    refine lv_bipush (v := (-8)) hx hb dO_firstChoice_5 (by decide) ?_
    refine lv_goto (tgt := 11) hx hb dO_firstChoice_7 (by decide) ?_
    exact tO_firstChoice_11 F hC ((-8)) _ _ _ _ _ _ h hR (lv_sub hl [] rfl)
set_option maxRecDepth 100000 in
set_option maxHeartbeats 4000000 in
theorem sO_firstChoice {l : Launch} {G : Gx} {n d : Nat} {C : Cx} (hC : CBs l G d C) (x0 : Int32) {M M' : Mem} {r : Option Value ⊕ Nat} (h : fO_firstChoice_0 n d C x0 M = some (r, M')) : CB l G (d + 1) yO_firstChoice [.int x0] M r M' := by
  intro p e R s m below meth c hx hn hm hc hlk hK hR hcap hS hU hfr hlo hrc hrs
  obtain ⟨hb, hml, hrt, hex, hown⟩ := fx_of hn hm hc (hK.w mfO_firstChoice.2.2.1 rfl #[])
  have F : FX p s m meth c G R M d "HeadCount$World" bO_firstChoice 1 (some .int) := ⟨hx, hb, hml, hown, hrt, hlk, hex, hK, hfr, hlo, by rw [← hcap]; exact hrc, hrs⟩
  rw [hml]
  have hl := lv_entry ([.int x0]) (n := 1) (by simp [lg_sl, cat_rf, cat_i, cat_a, cat_l, cat_n])
  rw [lg_entry_eq]
  generalize (lg_sl ([.int x0]) ++ List.replicate (1 - (lg_sl ([.int x0])).length) Slot.unset).toArray = ls at hl ⊢
  have hl : lv_has ls 1 [(0, .int x0)] := by simpa [lv_args, cat_rf, cat_i, cat_a, cat_l, cat_n] using hl
  exact tO_firstChoice_0 F hC x0 _ _ _ _ _ _ h (RL.start hR hcap hS hU) (lv_sub hl [0] rfl)
def fO_choices_13 (n d : Nat) (C : Cx) (xs0 : Int32) (M : Mem) : Rz := some (.inl (some (.int xs0)), M)
set_option maxRecDepth 100000 in
set_option maxHeartbeats 4000000 in
theorem tO_choices_13 {n : Nat} (F : FX p s m meth c G R M0 d "HeadCount$World" bO_choices 2 (some .int)) (hC : CBs l G d C) : ∀ (xs0 : Int32) (M : Mem) (H : Heap) (locs : List Loc) (cells slots : Nat) (ls : Array Slot), fO_choices_13 n d C xs0 M = some (r, M') → RL G M0 M H locs cells slots → lv_has ls 2 [] → W p l e R s m args below meth c H locs cells slots (CQ G below s M0 r M') (F0 m 13 ls [.int xs0]) := by
  obtain ⟨hx, hb, hml, hown, hrt, hlk, hex, hK, hRm⟩ := id F
  intro xs0 M H locs cells slots ls h hR hl
  unfold fO_choices_13 at h
  cases h
  exact rt_i hx hb hlk hrt (Or.inl rfl) rfl hR dO_choices_13
def fO_choices_0 (n d : Nat) (C : Cx) (x0 : Int32) (x1 : Int32) (M : Mem) : Rz := if 3 ≤ x0 then (fO_choices_13 n d C (1 <<< (x1 &&& 31)) M) else (fO_choices_13 n d C 17 M)
set_option maxRecDepth 100000 in
set_option maxHeartbeats 4000000 in
theorem tO_choices_0 {n : Nat} (F : FX p s m meth c G R M0 d "HeadCount$World" bO_choices 2 (some .int)) (hC : CBs l G d C) : ∀ (x0 : Int32) (x1 : Int32) (M : Mem) (H : Heap) (locs : List Loc) (cells slots : Nat) (ls : Array Slot), fO_choices_0 n d C x0 x1 M = some (r, M') → RL G M0 M H locs cells slots → lv_has ls 2 [(0, .int x0), (1, .int x1)] → W p l e R s m args below meth c H locs cells slots (CQ G below s M0 r M') (F0 m 0 ls []) := by
  obtain ⟨hx, hb, hml, hown, hrt, hlk, hex, hK, hRm⟩ := id F
  intro x0 x1 M H locs cells slots ls h hR hl
  unfold fO_choices_0 at h
  refine lv_iload_n hx hb dO_choices_0 rfl (lv_at hl 0 rfl) ?_
  refine lv_iconst (v := 3) hx hb dO_choices_1 (by decide) ?_
  refine lv_icmp_ge (tgt := 10) hx hb dO_choices_2 (by decide) (fun c_1 => ?_) (fun c_1 => ?_)
  · replace h := rz_t c_1 h
    refine lv_iconst (v := 1) hx hb dO_choices_10 (by decide) ?_
    refine lv_iload_n hx hb dO_choices_11 rfl (lv_at hl 1 rfl) ?_
    refine lv_ishl hx hb dO_choices_12 ?_
    exact tO_choices_13 F hC (1 <<< (x1 &&& 31)) _ _ _ _ _ _ h hR (lv_sub hl [] rfl)
  · replace h := rz_f c_1 h
    refine lv_bipush (v := 17) hx hb dO_choices_5 (by decide) ?_
    refine lv_goto (tgt := 13) hx hb dO_choices_7 (by decide) ?_
    exact tO_choices_13 F hC 17 _ _ _ _ _ _ h hR (lv_sub hl [] rfl)
set_option maxRecDepth 100000 in
set_option maxHeartbeats 4000000 in
theorem sO_choices {l : Launch} {G : Gx} {n d : Nat} {C : Cx} (hC : CBs l G d C) (x0 : Int32) (x1 : Int32) {M M' : Mem} {r : Option Value ⊕ Nat} (h : fO_choices_0 n d C x0 x1 M = some (r, M')) : CB l G (d + 1) yO_choices [.int x0, .int x1] M r M' := by
  intro p e R s m below meth c hx hn hm hc hlk hK hR hcap hS hU hfr hlo hrc hrs
  obtain ⟨hb, hml, hrt, hex, hown⟩ := fx_of hn hm hc (hK.w mfO_choices.2.2.1 rfl #[])
  have F : FX p s m meth c G R M d "HeadCount$World" bO_choices 2 (some .int) := ⟨hx, hb, hml, hown, hrt, hlk, hex, hK, hfr, hlo, by rw [← hcap]; exact hrc, hrs⟩
  rw [hml]
  have hl := lv_entry ([.int x0, .int x1]) (n := 2) (by simp [lg_sl, cat_rf, cat_i, cat_a, cat_l, cat_n])
  rw [lg_entry_eq]
  generalize (lg_sl ([.int x0, .int x1]) ++ List.replicate (2 - (lg_sl ([.int x0, .int x1])).length) Slot.unset).toArray = ls at hl ⊢
  have hl : lv_has ls 2 [(0, .int x0), (1, .int x1)] := by simpa [lv_args, cat_rf, cat_i, cat_a, cat_l, cat_n] using hl
  exact tO_choices_0 F hC x0 x1 _ _ _ _ _ _ h (RL.start hR hcap hS hU) (lv_sub hl [0, 1] rfl)
def fO_bind_20 (n d : Nat) (C : Cx) (M : Mem) : Rz := some (.inl none, M)
set_option maxRecDepth 100000 in
set_option maxHeartbeats 4000000 in
theorem tO_bind_20 {n : Nat} (F : FX p s m meth c G R M0 d "HeadCount$World" bO_bind 3 none) (hC : CBs l G d C) : ∀ (M : Mem) (H : Heap) (locs : List Loc) (cells slots : Nat) (ls : Array Slot), fO_bind_20 n d C M = some (r, M') → RL G M0 M H locs cells slots → lv_has ls 3 [] → W p l e R s m args below meth c H locs cells slots (CQ G below s M0 r M') (F0 m 20 ls []) := by
  obtain ⟨hx, hb, hml, hown, hrt, hlk, hex, hK, hRm⟩ := id F
  intro M H locs cells slots ls h hR hl
  unfold fO_bind_20 at h
  cases h
  exact rt_v hx hb hlk hrt hR dO_bind_20
def fO_bind_0 (n d : Nat) (C : Cx) (a0 : Nat) (x1 : Int32) (x2 : Int32) (M : Mem) : Rz := if x1 < 0 then (fO_bind_20 n d C M) else (if mK M a0 = 3 then (rzD (mP M a0 2) fun a_3 => (if mK M a_3 = 21 then (if (nI (mL M a_3)) ≤ x1 then (fO_bind_20 n d C M) else (if inA x1 (mL M a_3) then (rzM (setI M a_3 x1.toNatClampNeg x2) fun M_8 => (fO_bind_20 n d C M_8)) else none)) else none)) else none)
set_option maxRecDepth 100000 in
set_option maxHeartbeats 4000000 in
theorem tO_bind_0 {n : Nat} (F : FX p s m meth c G R M0 d "HeadCount$World" bO_bind 3 none) (hC : CBs l G d C) : ∀ (a0 : Nat) (x1 : Int32) (x2 : Int32) (M : Mem) (H : Heap) (locs : List Loc) (cells slots : Nat) (ls : Array Slot), fO_bind_0 n d C a0 x1 x2 M = some (r, M') → RL G M0 M H locs cells slots → lv_has ls 3 [(0, .ref a0), (1, .int x1), (2, .int x2)] → W p l e R s m args below meth c H locs cells slots (CQ G below s M0 r M') (F0 m 0 ls []) := by
  obtain ⟨hx, hb, hml, hown, hrt, hlk, hex, hK, hRm⟩ := id F
  intro a0 x1 x2 M H locs cells slots ls h hR hl
  unfold fO_bind_0 at h
  refine lv_iload_n hx hb dO_bind_0 rfl (lv_at hl 1 rfl) ?_
  refine lv_if_lt (tgt := 20) hx hb dO_bind_1 (by decide) (fun c_1 => ?_) (fun c_1 => ?_)
  · replace h := rz_t c_1 h
    exact tO_bind_20 F hC _ _ _ _ _ _ h hR (lv_sub hl [] rfl)
  · replace h := rz_f c_1 h
    refine lv_iload_n hx hb dO_bind_4 rfl (lv_at hl 1 rfl) ?_
    refine lv_aload_n hx hb dO_bind_5 rfl (lv_at hl 0 rfl) ?_
    obtain ⟨c_2, h⟩ := rz_chk h
    refine rg_getP hx hb hown hK hR hk_O 2 (by decide) kf_O_17 rfl c_2 dO_bind_6 ?_
    obtain ⟨a_3, e_4, h⟩ := rz_d h
    rw [e_4]
    obtain ⟨c_5, h⟩ := rz_chk h
    refine rg_alen hx hb hK hR 21 c_5 (by decide) (by decide) dO_bind_9 ?_
    refine lv_icmp_ge (tgt := 20) hx hb dO_bind_10 (by decide) (fun c_6 => ?_) (fun c_6 => ?_)
    · replace h := rz_t c_6 h
      exact tO_bind_20 F hC _ _ _ _ _ _ h hR (lv_sub hl [] rfl)
    · replace h := rz_f c_6 h
      refine lv_aload_n hx hb dO_bind_13 rfl (lv_at hl 0 rfl) ?_
      refine rg_getP hx hb hown hK hR hk_O 2 (by decide) kf_O_17 rfl c_2 dO_bind_14 ?_
      refine lv_iload_n hx hb dO_bind_17 rfl (lv_at hl 1 rfl) ?_
      refine lv_iload_n hx hb dO_bind_18 rfl (lv_at hl 2 rfl) ?_
      rw [e_4]
      obtain ⟨c_7, h⟩ := rz_chk h
      obtain ⟨M_8, q_9, h⟩ := rz_m h
      refine rg_iast hx hb hK hR c_5 c_7 dO_bind_19 (fun H locs hR => ?_)
      rw [← q_9] at hR
      have c_10 : mK M_8 a0 = 3 := by rw [q_9]; exact c_2
      have c_11 : mK M_8 a_3 = 21 := by rw [q_9]; exact c_5
      exact tO_bind_20 F hC _ _ _ _ _ _ h hR (lv_sub hl [] rfl)
set_option maxRecDepth 100000 in
set_option maxHeartbeats 4000000 in
theorem sO_bind {l : Launch} {G : Gx} {n d : Nat} {C : Cx} (hC : CBs l G d C) (a0 : Nat) (x1 : Int32) (x2 : Int32) {M M' : Mem} {r : Option Value ⊕ Nat} (h : fO_bind_0 n d C a0 x1 x2 M = some (r, M')) : CB l G (d + 1) yO_bind [.ref a0, .int x1, .int x2] M r M' := by
  intro p e R s m below meth c hx hn hm hc hlk hK hR hcap hS hU hfr hlo hrc hrs
  obtain ⟨hb, hml, hrt, hex, hown⟩ := fx_of hn hm hc (hK.w mfO_bind.2.2.1 rfl #[])
  have F : FX p s m meth c G R M d "HeadCount$World" bO_bind 3 none := ⟨hx, hb, hml, hown, hrt, hlk, hex, hK, hfr, hlo, by rw [← hcap]; exact hrc, hrs⟩
  rw [hml]
  have hl := lv_entry ([.ref a0, .int x1, .int x2]) (n := 3) (by simp [lg_sl, cat_rf, cat_i, cat_a, cat_l, cat_n])
  rw [lg_entry_eq]
  generalize (lg_sl ([.ref a0, .int x1, .int x2]) ++ List.replicate (3 - (lg_sl ([.ref a0, .int x1, .int x2])).length) Slot.unset).toArray = ls at hl ⊢
  have hl : lv_has ls 3 [(0, .ref a0), (1, .int x1), (2, .int x2)] := by simpa [lv_args, cat_rf, cat_i, cat_a, cat_l, cat_n] using hl
  exact tO_bind_0 F hC a0 x1 x2 _ _ _ _ _ _ h (RL.start hR hcap hS hU) (lv_sub hl [0, 1, 2] rfl)
def fO_isTrueOfSets_64 (n d : Nat) (C : Cx) (xs0 : Int32) (M : Mem) : Rz := if fits .boolean (.int xs0) = true then (some (.inl (some (.int xs0)), M)) else none
set_option maxRecDepth 100000 in
set_option maxHeartbeats 4000000 in
theorem tO_isTrueOfSets_64 {n : Nat} (F : FX p s m meth c G R M0 d "HeadCount$World" bO_isTrueOfSets 5 (some .boolean)) (hC : CBs l G d C) : ∀ (xs0 : Int32) (M : Mem) (H : Heap) (locs : List Loc) (cells slots : Nat) (ls : Array Slot), fO_isTrueOfSets_64 n d C xs0 M = some (r, M') → RL G M0 M H locs cells slots → lv_has ls 5 [] → W p l e R s m args below meth c H locs cells slots (CQ G below s M0 r M') (F0 m 64 ls [.int xs0]) := by
  obtain ⟨hx, hb, hml, hown, hrt, hlk, hex, hK, hRm⟩ := id F
  intro xs0 M H locs cells slots ls h hR hl
  unfold fO_isTrueOfSets_64 at h
  obtain ⟨c_1, h⟩ := rz_chk h
  cases h
  exact rt_i hx hb hlk hrt (Or.inr (Or.inr rfl)) c_1 hR dO_isTrueOfSets_64
def fO_isTrueOfSets_0 (n d : Nat) (C : Cx) (a0 : Nat) (r1 : Option Nat) (M : Mem) : Rz := rzD r1 fun a_1 => (if mK M a_1 = 4 then (rzN (mP M a_1 3) (if fits .boolean (.int 0) = true then (some (.inl (some (.int 0)), M)) else none) fun a_4 => (if mK M a0 = 3 then (rzC (C 57 [.ref a0, va_rf (mP M a_1 3)] M) fun v_8 M_9 => (rzI v_8 fun x_12 => (rzD (mP M a_1 3) fun a_13 => (if mK M_9 a_13 = 4 then (if mK M_9 a0 = 3 then (rzC (C 57 [.ref a0, va_rf (mP M_9 a_13 4)] M_9) fun v_17 M_18 => (rzI v_17 fun x_21 => (rzD r1 fun a_22 => (if mK M_18 a_22 = 4 then (if (mI M_18 a_22 0) = 91 then (if (x_12 &&& (x_21 ^^^ ((-1)))) = 0 then (fO_isTrueOfSets_64 n d C 1 M_18) else (fO_isTrueOfSets_64 n d C 0 M_18)) else (if x_12 = x_21 then (fO_isTrueOfSets_64 n d C 1 M_18) else (fO_isTrueOfSets_64 n d C 0 M_18))) else none)))) else none) else none)))) else none)) else none)
set_option maxRecDepth 100000 in
set_option maxHeartbeats 4000000 in
theorem tO_isTrueOfSets_0 {n : Nat} (F : FX p s m meth c G R M0 d "HeadCount$World" bO_isTrueOfSets 5 (some .boolean)) (hC : CBs l G d C) : ∀ (a0 : Nat) (r1 : Option Nat) (M : Mem) (H : Heap) (locs : List Loc) (cells slots : Nat) (ls : Array Slot), fO_isTrueOfSets_0 n d C a0 r1 M = some (r, M') → RL G M0 M H locs cells slots → lv_has ls 5 [(0, .ref a0), (1, va_rf r1)] → W p l e R s m args below meth c H locs cells slots (CQ G below s M0 r M') (F0 m 0 ls []) := by
  obtain ⟨hx, hb, hml, hown, hrt, hlk, hex, hK, hRm⟩ := id F
  intro a0 r1 M H locs cells slots ls h hR hl
  unfold fO_isTrueOfSets_0 at h
  refine lr_aload_n hx hb dO_isTrueOfSets_0 rfl (lv_at hl 1 rfl) ?_
  obtain ⟨a_1, e_2, h⟩ := rz_d h
  rw [e_2]
  obtain ⟨c_3, h⟩ := rz_chk h
  refine rg_getP hx hb hown hK hR hk_N 3 (by decide) kf_O_55 rfl c_3 dO_isTrueOfSets_1 ?_
  refine lr_astore_n (lv' := [(2, va_rf (mP M a_1 3)), (0, .ref a0), (1, va_rf r1)]) hx hb dO_isTrueOfSets_4 rfl hl (by decide) (by first | (simp [cat_rf, cat_i, cat_a, cat_l, cat_n]; done) | (simp [cat_rf, cat_i, cat_a, cat_l, cat_n]; decide)) (fun ls hl => ?_)
  refine lr_aload_n hx hb dO_isTrueOfSets_5 rfl (lv_at hl 0 rfl) ?_
  refine lr_ifnonnull (tgt := 11) hx hb dO_isTrueOfSets_6 (by decide) (fun a_4 e_5 => ?_) (fun e_5 => ?_)
  · replace h := rz_n2 e_5 h
    refine lv_aload_n hx hb dO_isTrueOfSets_11 rfl (lv_at hl 1 rfl) ?_
    refine lr_aload_n hx hb dO_isTrueOfSets_12 rfl (lv_at hl 0 rfl) ?_
    obtain ⟨c_7, h⟩ := rz_chk h
    obtain ⟨q_11, M_9, h_10, h⟩ := rz_c h
    refine rc_V (rest := []) (As := [va_rf (mP M a_1 3)]) hx hb (hl.1.trans hml.symm) hown hK hR hRm mfO_elements kl_O_78 hk_O rfl rfl c_7 (by simp [cat_rf, cat_i, cat_a, cat_l, cat_n]) (hC 57 _ _ _ _ h_10) dO_isTrueOfSets_13 (fun v1 H locs cells slots ev hR => ?_) (fun x1 q1 ce1 H locs cells slots ex hR g1 g2 g3 => ?_)
    · rcases h with ⟨v_8, ev2, h⟩ | ⟨e2, ee2, -⟩
      · cases ev.symm.trans ev2
        replace h := rz_i h
        obtain ⟨x_12, rfl, h⟩ := h
        dsimp only [Option.toList, List.cons_append, List.nil_append]
        refine lv_istore_n (lv' := [(3, .int x_12), (2, va_rf (mP M a_1 3)), (0, .ref a0), (1, va_rf r1)]) hx hb dO_isTrueOfSets_16 rfl hl (by decide) (by first | (simp [cat_rf, cat_i, cat_a, cat_l, cat_n]; done) | (simp [cat_rf, cat_i, cat_a, cat_l, cat_n]; decide)) (fun ls hl => ?_)
        refine lv_aload_n hx hb dO_isTrueOfSets_17 rfl (lv_at hl 2 rfl) ?_
        refine lr_aload_n hx hb dO_isTrueOfSets_18 rfl (lv_at hl 1 rfl) ?_
        obtain ⟨a_13, e_14, h⟩ := rz_d h
        rw [e_14]
        obtain ⟨c_15, h⟩ := rz_chk h
        refine rg_getP hx hb hown hK hR hk_N 4 (by decide) kf_O_72 rfl c_15 dO_isTrueOfSets_19 ?_
        obtain ⟨c_16, h⟩ := rz_chk h
        obtain ⟨q_20, M_18, h_19, h⟩ := rz_c h
        refine rc_V (rest := []) (As := [va_rf (mP M_9 a_13 4)]) hx hb (hl.1.trans hml.symm) hown hK hR hRm mfO_elements kl_O_78 hk_O rfl rfl c_16 (by simp [cat_rf, cat_i, cat_a, cat_l, cat_n]) (hC 57 _ _ _ _ h_19) dO_isTrueOfSets_22 (fun v1 H locs cells slots ev hR => ?_) (fun x1 q1 ce1 H locs cells slots ex hR g1 g2 g3 => ?_)
        · rcases h with ⟨v_17, ev2, h⟩ | ⟨e2, ee2, -⟩
          · cases ev.symm.trans ev2
            replace h := rz_i h
            obtain ⟨x_21, rfl, h⟩ := h
            dsimp only [Option.toList, List.cons_append, List.nil_append]
            refine lv_istore (lv' := [(4, .int x_21), (3, .int x_12), (2, va_rf (mP M a_1 3)), (0, .ref a0), (1, va_rf r1)]) hx hb dO_isTrueOfSets_25 hl (by decide) rfl (fun ls hl => ?_)
            refine lr_aload_n hx hb dO_isTrueOfSets_27 rfl (lv_at hl 4 rfl) ?_
            obtain ⟨a_22, e_23, h⟩ := rz_d h
            rw [e_23]
            obtain ⟨c_24, h⟩ := rz_chk h
            refine rg_getI hx hb hown hK hR hk_N 0 (by decide) kf_O_30 rfl c_24 dO_isTrueOfSets_28 ?_
            refine lv_bipush (v := 91) hx hb dO_isTrueOfSets_31 (by decide) ?_
            refine lv_icmp_ne (tgt := 53) hx hb dO_isTrueOfSets_33 (by decide) (fun c_25 => ?_) (fun c_25 => ?_)
            · replace h := rz_f c_25 h
              refine lv_iload_n hx hb dO_isTrueOfSets_53 rfl (lv_at hl 1 rfl) ?_
              refine lv_iload hx hb dO_isTrueOfSets_54 (lv_at hl 0 rfl) ?_
              refine lv_icmp_ne (tgt := 63) hx hb dO_isTrueOfSets_56 (by decide) (fun c_26 => ?_) (fun c_26 => ?_)
              · replace h := rz_f c_26 h
                refine lv_iconst (v := 0) hx hb dO_isTrueOfSets_63 (by decide) ?_
                exact tO_isTrueOfSets_64 F hC 0 _ _ _ _ _ _ h hR (lv_sub hl [] rfl)
              · replace h := rz_t c_26 h
                refine lv_iconst (v := 1) hx hb dO_isTrueOfSets_59 (by decide) ?_
                refine lv_goto (tgt := 64) hx hb dO_isTrueOfSets_60 (by decide) ?_
                exact tO_isTrueOfSets_64 F hC 1 _ _ _ _ _ _ h hR (lv_sub hl [] rfl)
            · replace h := rz_t c_25 h
              refine lv_iload_n hx hb dO_isTrueOfSets_36 rfl (lv_at hl 1 rfl) ?_
              refine lv_iload hx hb dO_isTrueOfSets_37 (lv_at hl 0 rfl) ?_
              refine lv_iconst (v := (-1)) hx hb dO_isTrueOfSets_39 (by decide) ?_
              refine lv_ixor hx hb dO_isTrueOfSets_40 ?_
              refine lv_iand hx hb dO_isTrueOfSets_41 ?_
              refine lv_if_ne (tgt := 49) hx hb dO_isTrueOfSets_42 (by decide) (fun c_27 => ?_) (fun c_27 => ?_)
              · replace h := rz_f c_27 h
                refine lv_iconst (v := 0) hx hb dO_isTrueOfSets_49 (by decide) ?_
                refine lv_goto (tgt := 64) hx hb dO_isTrueOfSets_50 (by decide) ?_
                exact tO_isTrueOfSets_64 F hC 0 _ _ _ _ _ _ h hR (lv_sub hl [] rfl)
              · replace h := rz_t c_27 h
                refine lv_iconst (v := 1) hx hb dO_isTrueOfSets_45 (by decide) ?_
                refine lv_goto (tgt := 64) hx hb dO_isTrueOfSets_46 (by decide) ?_
                exact tO_isTrueOfSets_64 F hC 1 _ _ _ _ _ _ h hR (lv_sub hl [] rfl)
          · cases ev.symm.trans ee2
        · rcases h with ⟨v2, ev2, -⟩ | ⟨e2, ee2, h⟩
          · cases ex.symm.trans ev2
          · cases ex.symm.trans ee2
            cases h
            exact rt_x hlk hex hR g1 g2 g3
      · cases ev.symm.trans ee2
    · rcases h with ⟨v2, ev2, -⟩ | ⟨e2, ee2, h⟩
      · cases ex.symm.trans ev2
      · cases ex.symm.trans ee2
        cases h
        exact rt_x hlk hex hR g1 g2 g3
  · replace h := rz_n1 e_5 h
    refine lv_iconst (v := 0) hx hb dO_isTrueOfSets_9 (by decide) ?_
    obtain ⟨c_6, h⟩ := rz_chk h
    cases h
    exact rt_i hx hb hlk hrt (Or.inr (Or.inr rfl)) c_6 hR dO_isTrueOfSets_10
set_option maxRecDepth 100000 in
set_option maxHeartbeats 4000000 in
theorem sO_isTrueOfSets {l : Launch} {G : Gx} {n d : Nat} {C : Cx} (hC : CBs l G d C) (a0 : Nat) (r1 : Option Nat) {M M' : Mem} {r : Option Value ⊕ Nat} (h : fO_isTrueOfSets_0 n d C a0 r1 M = some (r, M')) : CB l G (d + 1) yO_isTrueOfSets [.ref a0, va_rf r1] M r M' := by
  intro p e R s m below meth c hx hn hm hc hlk hK hR hcap hS hU hfr hlo hrc hrs
  obtain ⟨hb, hml, hrt, hex, hown⟩ := fx_of hn hm hc (hK.w mfO_isTrueOfSets.2.2.1 rfl #[])
  have F : FX p s m meth c G R M d "HeadCount$World" bO_isTrueOfSets 5 (some .boolean) := ⟨hx, hb, hml, hown, hrt, hlk, hex, hK, hfr, hlo, by rw [← hcap]; exact hrc, hrs⟩
  rw [hml]
  have hl := lv_entry ([.ref a0, va_rf r1]) (n := 5) (by simp [lg_sl, cat_rf, cat_i, cat_a, cat_l, cat_n])
  rw [lg_entry_eq]
  generalize (lg_sl ([.ref a0, va_rf r1]) ++ List.replicate (5 - (lg_sl ([.ref a0, va_rf r1])).length) Slot.unset).toArray = ls at hl ⊢
  have hl : lv_has ls 5 [(0, .ref a0), (1, va_rf r1)] := by simpa [lv_args, cat_rf, cat_i, cat_a, cat_l, cat_n] using hl
  exact tO_isTrueOfSets_0 F hC a0 r1 _ _ _ _ _ _ h (RL.start hR hcap hS hU) (lv_sub hl [0, 1] rfl)
def fO_elements_97 (n d : Nat) (C : Cx) (a0 : Nat) (r1 : Option Nat) (M : Mem) : Rz := rzD r1 fun a_1 => (if mK M a_1 = 4 then (if mK M a0 = 3 then (rzC (C 52 [.ref a0, .int (mI M a_1 2)] M) fun v_5 M_6 => (rzI v_5 fun x_9 => (some (.inl (some (.int x_9)), M_6)))) else none) else none)
set_option maxRecDepth 100000 in
set_option maxHeartbeats 4000000 in
theorem tO_elements_97 {n : Nat} (F : FX p s m meth c G R M0 d "HeadCount$World" bO_elements 2 (some .int)) (hC : CBs l G d C) : ∀ (a0 : Nat) (r1 : Option Nat) (M : Mem) (H : Heap) (locs : List Loc) (cells slots : Nat) (ls : Array Slot), fO_elements_97 n d C a0 r1 M = some (r, M') → RL G M0 M H locs cells slots → lv_has ls 2 [(0, .ref a0), (1, va_rf r1)] → W p l e R s m args below meth c H locs cells slots (CQ G below s M0 r M') (F0 m 97 ls []) := by
  obtain ⟨hx, hb, hml, hown, hrt, hlk, hex, hK, hRm⟩ := id F
  intro a0 r1 M H locs cells slots ls h hR hl
  unfold fO_elements_97 at h
  refine lv_aload_n hx hb dO_elements_97 rfl (lv_at hl 0 rfl) ?_
  refine lr_aload_n hx hb dO_elements_98 rfl (lv_at hl 1 rfl) ?_
  obtain ⟨a_1, e_2, h⟩ := rz_d h
  rw [e_2]
  obtain ⟨c_3, h⟩ := rz_chk h
  refine rg_getI hx hb hown hK hR hk_N 2 (by decide) kf_O_40 rfl c_3 dO_elements_99 ?_
  obtain ⟨c_4, h⟩ := rz_chk h
  obtain ⟨q_8, M_6, h_7, h⟩ := rz_c h
  refine rc_V (rest := []) (As := [.int (mI M a_1 2)]) hx hb (hl.1.trans hml.symm) hown hK hR hRm mfO_value kl_O_75 hk_O rfl rfl c_4 (by simp [cat_rf, cat_i, cat_a, cat_l, cat_n]) (hC 52 _ _ _ _ h_7) dO_elements_102 (fun v1 H locs cells slots ev hR => ?_) (fun x1 q1 ce1 H locs cells slots ex hR g1 g2 g3 => ?_)
  · rcases h with ⟨v_5, ev2, h⟩ | ⟨e2, ee2, -⟩
    · cases ev.symm.trans ev2
      replace h := rz_i h
      obtain ⟨x_9, rfl, h⟩ := h
      dsimp only [Option.toList, List.cons_append, List.nil_append]
      cases h
      exact rt_i hx hb hlk hrt (Or.inl rfl) rfl hR dO_elements_105
    · cases ev.symm.trans ee2
  · rcases h with ⟨v2, ev2, -⟩ | ⟨e2, ee2, h⟩
    · cases ex.symm.trans ev2
    · cases ex.symm.trans ee2
      cases h
      exact rt_x hlk hex hR g1 g2 g3
def fO_elements_0 (n d : Nat) (C : Cx) (a0 : Nat) (r1 : Option Nat) (M : Mem) : Rz := rzN r1 (some (.inl (some (.int 0)), M)) fun a_1 => (if mK M a_1 = 4 then (if (mI M a_1 0) = 42 then (if mK M a0 = 3 then (rzC (C 59 [.ref a0, va_rf (mP M a_1 3)] M) fun v_6 M_7 => (rzI v_6 fun x_10 => (some (.inl (some (.int x_10)), M_7)))) else none) else (if (mI M a_1 0) = 43 then (if mK M a0 = 3 then (rzC (C 58 [.ref a0, va_rf (mP M a_1 3)] M) fun v_13 M_14 => (rzI v_13 fun x_17 => (some (.inl (some (.int x_17)), M_14)))) else none) else (if (mI M a_1 0) = 44 then (fO_elements_97 n d C a0 r1 M) else (if (mI M a_1 0) = 45 then (if mK M a0 = 3 then (rzC (C 57 [.ref a0, va_rf (mP M a_1 3)] M) fun v_21 M_22 => (rzI v_21 fun x_25 => (some (.inl (some (.int ((mI M a0 1) &&& (x_25 ^^^ ((-1)))))), M_22)))) else none) else (if (mI M a_1 0) = 46 then (fO_elements_97 n d C a0 r1 M) else (if (mI M a_1 0) = 47 then (fO_elements_97 n d C a0 r1 M) else (if (mI M a_1 0) = 48 then (some (.inl (some (.int 0)), M)) else (if (mI M a_1 0) = 49 then (if mK M a0 = 3 then (some (.inl (some (.int (mI M a0 1))), M)) else none) else (fO_elements_97 n d C a0 r1 M))))))))) else none)
set_option maxRecDepth 100000 in
set_option maxHeartbeats 4000000 in
theorem tO_elements_0 {n : Nat} (F : FX p s m meth c G R M0 d "HeadCount$World" bO_elements 2 (some .int)) (hC : CBs l G d C) : ∀ (a0 : Nat) (r1 : Option Nat) (M : Mem) (H : Heap) (locs : List Loc) (cells slots : Nat) (ls : Array Slot), fO_elements_0 n d C a0 r1 M = some (r, M') → RL G M0 M H locs cells slots → lv_has ls 2 [(0, .ref a0), (1, va_rf r1)] → W p l e R s m args below meth c H locs cells slots (CQ G below s M0 r M') (F0 m 0 ls []) := by
  obtain ⟨hx, hb, hml, hown, hrt, hlk, hex, hK, hRm⟩ := id F
  intro a0 r1 M H locs cells slots ls h hR hl
  unfold fO_elements_0 at h
  refine lr_aload_n hx hb dO_elements_0 rfl (lv_at hl 1 rfl) ?_
  refine lr_ifnonnull (tgt := 6) hx hb dO_elements_1 (by decide) (fun a_1 e_2 => ?_) (fun e_2 => ?_)
  · replace h := rz_n2 e_2 h
    refine lr_aload_n hx hb dO_elements_6 rfl (lv_at hl 1 rfl) ?_
    rw [e_2]
    obtain ⟨c_3, h⟩ := rz_chk h
    refine rg_getI hx hb hown hK hR hk_N 0 (by decide) kf_O_30 rfl c_3 dO_elements_7 ?_
    by_cases c_4 : (mI M a_1 0) = 42
    · replace h := rz_t c_4 h
      refine lv_tableIn (off := 55) (tgt := 65) hx hb dO_elements_10 (by rw [c_4]; decide) (by rw [c_4]; decide) (by rw [c_4]; decide) (by decide) ?_
      refine lv_aload_n hx hb dO_elements_65 rfl (lv_at hl 0 rfl) ?_
      refine lr_aload_n hx hb dO_elements_66 rfl (lv_at hl 1 rfl) ?_
      rw [e_2]
      refine rg_getP hx hb hown hK hR hk_N 3 (by decide) kf_O_55 rfl c_3 dO_elements_67 ?_
      obtain ⟨c_5, h⟩ := rz_chk h
      obtain ⟨q_9, M_7, h_8, h⟩ := rz_c h
      refine rc_V (rest := []) (As := [va_rf (mP M a_1 3)]) hx hb (hl.1.trans hml.symm) hown hK hR hRm mfO_meet kl_O_96 hk_O rfl rfl c_5 (by simp [cat_rf, cat_i, cat_a, cat_l, cat_n]) (hC 59 _ _ _ _ h_8) dO_elements_70 (fun v1 H locs cells slots ev hR => ?_) (fun x1 q1 ce1 H locs cells slots ex hR g1 g2 g3 => ?_)
      · rcases h with ⟨v_6, ev2, h⟩ | ⟨e2, ee2, -⟩
        · cases ev.symm.trans ev2
          replace h := rz_i h
          obtain ⟨x_10, rfl, h⟩ := h
          dsimp only [Option.toList, List.cons_append, List.nil_append]
          cases h
          exact rt_i hx hb hlk hrt (Or.inl rfl) rfl hR dO_elements_73
        · cases ev.symm.trans ee2
      · rcases h with ⟨v2, ev2, -⟩ | ⟨e2, ee2, h⟩
        · cases ex.symm.trans ev2
        · cases ex.symm.trans ee2
          cases h
          exact rt_x hlk hex hR g1 g2 g3
    · replace h := rz_f c_4 h
      by_cases c_11 : (mI M a_1 0) = 43
      · replace h := rz_t c_11 h
        refine lv_tableIn (off := 46) (tgt := 56) hx hb dO_elements_10 (by rw [c_11]; decide) (by rw [c_11]; decide) (by rw [c_11]; decide) (by decide) ?_
        refine lv_aload_n hx hb dO_elements_56 rfl (lv_at hl 0 rfl) ?_
        refine lr_aload_n hx hb dO_elements_57 rfl (lv_at hl 1 rfl) ?_
        rw [e_2]
        refine rg_getP hx hb hown hK hR hk_N 3 (by decide) kf_O_55 rfl c_3 dO_elements_58 ?_
        obtain ⟨c_12, h⟩ := rz_chk h
        obtain ⟨q_16, M_14, h_15, h⟩ := rz_c h
        refine rc_V (rest := []) (As := [va_rf (mP M a_1 3)]) hx hb (hl.1.trans hml.symm) hown hK hR hRm mfO_union kl_O_93 hk_O rfl rfl c_12 (by simp [cat_rf, cat_i, cat_a, cat_l, cat_n]) (hC 58 _ _ _ _ h_15) dO_elements_61 (fun v1 H locs cells slots ev hR => ?_) (fun x1 q1 ce1 H locs cells slots ex hR g1 g2 g3 => ?_)
        · rcases h with ⟨v_13, ev2, h⟩ | ⟨e2, ee2, -⟩
          · cases ev.symm.trans ev2
            replace h := rz_i h
            obtain ⟨x_17, rfl, h⟩ := h
            dsimp only [Option.toList, List.cons_append, List.nil_append]
            cases h
            exact rt_i hx hb hlk hrt (Or.inl rfl) rfl hR dO_elements_64
          · cases ev.symm.trans ee2
        · rcases h with ⟨v2, ev2, -⟩ | ⟨e2, ee2, h⟩
          · cases ex.symm.trans ev2
          · cases ex.symm.trans ee2
            cases h
            exact rt_x hlk hex hR g1 g2 g3
      · replace h := rz_f c_11 h
        by_cases c_18 : (mI M a_1 0) = 44
        · replace h := rz_t c_18 h
          refine lv_tableIn (off := 87) (tgt := 97) hx hb dO_elements_10 (by rw [c_18]; decide) (by rw [c_18]; decide) (by rw [c_18]; decide) (by decide) ?_
          exact tO_elements_97 F hC a0 r1 _ _ _ _ _ _ h hR (lv_sub hl [0, 1] rfl)
        · replace h := rz_f c_18 h
          by_cases c_19 : (mI M a_1 0) = 45
          · replace h := rz_t c_19 h
            refine lv_tableIn (off := 64) (tgt := 74) hx hb dO_elements_10 (by rw [c_19]; decide) (by rw [c_19]; decide) (by rw [c_19]; decide) (by decide) ?_
            refine lv_aload_n hx hb dO_elements_74 rfl (lv_at hl 0 rfl) ?_
            obtain ⟨c_20, h⟩ := rz_chk h
            refine rg_getI hx hb hown hK hR hk_O 1 (by decide) kf_O_27 rfl c_20 dO_elements_75 ?_
            refine lv_aload_n hx hb dO_elements_78 rfl (lv_at hl 0 rfl) ?_
            refine lr_aload_n hx hb dO_elements_79 rfl (lv_at hl 1 rfl) ?_
            rw [e_2]
            refine rg_getP hx hb hown hK hR hk_N 3 (by decide) kf_O_55 rfl c_3 dO_elements_80 ?_
            obtain ⟨q_24, M_22, h_23, h⟩ := rz_c h
            refine rc_V (rest := [.int (mI M a0 1)]) (As := [va_rf (mP M a_1 3)]) hx hb (hl.1.trans hml.symm) hown hK hR hRm mfO_elements kl_O_78 hk_O rfl rfl c_20 (by simp [cat_rf, cat_i, cat_a, cat_l, cat_n]) (hC 57 _ _ _ _ h_23) dO_elements_83 (fun v1 H locs cells slots ev hR => ?_) (fun x1 q1 ce1 H locs cells slots ex hR g1 g2 g3 => ?_)
            · rcases h with ⟨v_21, ev2, h⟩ | ⟨e2, ee2, -⟩
              · cases ev.symm.trans ev2
                replace h := rz_i h
                obtain ⟨x_25, rfl, h⟩ := h
                dsimp only [Option.toList, List.cons_append, List.nil_append]
                refine lv_iconst (v := (-1)) hx hb dO_elements_86 (by decide) ?_
                refine lv_ixor hx hb dO_elements_87 ?_
                refine lv_iand hx hb dO_elements_88 ?_
                cases h
                exact rt_i hx hb hlk hrt (Or.inl rfl) rfl hR dO_elements_89
              · cases ev.symm.trans ee2
            · rcases h with ⟨v2, ev2, -⟩ | ⟨e2, ee2, h⟩
              · cases ex.symm.trans ev2
              · cases ex.symm.trans ee2
                cases h
                exact rt_x hlk hex hR g1 g2 g3
          · replace h := rz_f c_19 h
            by_cases c_26 : (mI M a_1 0) = 46
            · replace h := rz_t c_26 h
              refine lv_tableIn (off := 87) (tgt := 97) hx hb dO_elements_10 (by rw [c_26]; decide) (by rw [c_26]; decide) (by rw [c_26]; decide) (by decide) ?_
              exact tO_elements_97 F hC a0 r1 _ _ _ _ _ _ h hR (lv_sub hl [0, 1] rfl)
            · replace h := rz_f c_26 h
              by_cases c_27 : (mI M a_1 0) = 47
              · replace h := rz_t c_27 h
                refine lv_tableIn (off := 87) (tgt := 97) hx hb dO_elements_10 (by rw [c_27]; decide) (by rw [c_27]; decide) (by rw [c_27]; decide) (by decide) ?_
                exact tO_elements_97 F hC a0 r1 _ _ _ _ _ _ h hR (lv_sub hl [0, 1] rfl)
              · replace h := rz_f c_27 h
                by_cases c_28 : (mI M a_1 0) = 48
                · replace h := rz_t c_28 h
                  refine lv_tableIn (off := 80) (tgt := 90) hx hb dO_elements_10 (by rw [c_28]; decide) (by rw [c_28]; decide) (by rw [c_28]; decide) (by decide) ?_
                  refine lv_iconst (v := 0) hx hb dO_elements_90 (by decide) ?_
                  cases h
                  exact rt_i hx hb hlk hrt (Or.inl rfl) rfl hR dO_elements_91
                · replace h := rz_f c_28 h
                  by_cases c_29 : (mI M a_1 0) = 49
                  · replace h := rz_t c_29 h
                    refine lv_tableIn (off := 82) (tgt := 92) hx hb dO_elements_10 (by rw [c_29]; decide) (by rw [c_29]; decide) (by rw [c_29]; decide) (by decide) ?_
                    refine lv_aload_n hx hb dO_elements_92 rfl (lv_at hl 0 rfl) ?_
                    obtain ⟨c_30, h⟩ := rz_chk h
                    refine rg_getI hx hb hown hK hR hk_O 1 (by decide) kf_O_27 rfl c_30 dO_elements_93 ?_
                    cases h
                    exact rt_i hx hb hlk hrt (Or.inl rfl) rfl hR dO_elements_96
                  · replace h := rz_f c_29 h
                    have zc_4 := lv_neT c_4 (k := 42) (a := 42) (by decide)
                    have zc_11 := lv_neT c_11 (k := 43) (a := 43) (by decide)
                    have zc_18 := lv_neT c_18 (k := 44) (a := 44) (by decide)
                    have zc_19 := lv_neT c_19 (k := 45) (a := 45) (by decide)
                    have zc_26 := lv_neT c_26 (k := 46) (a := 46) (by decide)
                    have zc_27 := lv_neT c_27 (k := 47) (a := 47) (by decide)
                    have zc_28 := lv_neT c_28 (k := 48) (a := 48) (by decide)
                    have zc_29 := lv_neT c_29 (k := 49) (a := 49) (by decide)
                    refine lv_tableOut (tgt := 97) hx hb dO_elements_10 (by omega) (by decide) ?_
                    exact tO_elements_97 F hC a0 r1 _ _ _ _ _ _ h hR (lv_sub hl [0, 1] rfl)
  · replace h := rz_n1 e_2 h
    refine lv_iconst (v := 0) hx hb dO_elements_4 (by decide) ?_
    cases h
    exact rt_i hx hb hlk hrt (Or.inl rfl) rfl hR dO_elements_5
set_option maxRecDepth 100000 in
set_option maxHeartbeats 4000000 in
theorem sO_elements {l : Launch} {G : Gx} {n d : Nat} {C : Cx} (hC : CBs l G d C) (a0 : Nat) (r1 : Option Nat) {M M' : Mem} {r : Option Value ⊕ Nat} (h : fO_elements_0 n d C a0 r1 M = some (r, M')) : CB l G (d + 1) yO_elements [.ref a0, va_rf r1] M r M' := by
  intro p e R s m below meth c hx hn hm hc hlk hK hR hcap hS hU hfr hlo hrc hrs
  obtain ⟨hb, hml, hrt, hex, hown⟩ := fx_of hn hm hc (hK.w mfO_elements.2.2.1 rfl #[])
  have F : FX p s m meth c G R M d "HeadCount$World" bO_elements 2 (some .int) := ⟨hx, hb, hml, hown, hrt, hlk, hex, hK, hfr, hlo, by rw [← hcap]; exact hrc, hrs⟩
  rw [hml]
  have hl := lv_entry ([.ref a0, va_rf r1]) (n := 2) (by simp [lg_sl, cat_rf, cat_i, cat_a, cat_l, cat_n])
  rw [lg_entry_eq]
  generalize (lg_sl ([.ref a0, va_rf r1]) ++ List.replicate (2 - (lg_sl ([.ref a0, va_rf r1])).length) Slot.unset).toArray = ls at hl ⊢
  have hl : lv_has ls 2 [(0, .ref a0), (1, va_rf r1)] := by simpa [lv_args, cat_rf, cat_i, cat_a, cat_l, cat_n] using hl
  exact tO_elements_0 F hC a0 r1 _ _ _ _ _ _ h (RL.start hR hcap hS hU) (lv_sub hl [0, 1] rfl)
def fO_union_4 (n d : Nat) (C : Cx) : Nat → Nat → Int32 → Option Nat → Mem → Rz
  | 0, _, _, _, _ => none
  | w + 1, a0, x2, r3, M => rzN r3 (some (.inl (some (.int x2)), M)) fun a_1 => (if mK M a0 = 3 then (rzC (C 57 [.ref a0, va_rf r3] M) fun v_4 M_5 => (rzI v_4 fun x_8 => (rzD r3 fun a_9 => (if mK M_5 a_9 = 4 then (fO_union_4 n d C w a0 (x2 ||| x_8) (mP M_5 a_9 4) M_5) else none)))) else none)
set_option maxRecDepth 100000 in
set_option maxHeartbeats 4000000 in
theorem tO_union_4 {n : Nat} (F : FX p s m meth c G R M0 d "HeadCount$World" bO_union 4 (some .int)) (hC : CBs l G d C) : ∀ (w : Nat) (a0 : Nat) (x2 : Int32) (r3 : Option Nat) (M : Mem) (H : Heap) (locs : List Loc) (cells slots : Nat) (ls : Array Slot), fO_union_4 n d C w a0 x2 r3 M = some (r, M') → RL G M0 M H locs cells slots → lv_has ls 4 [(0, .ref a0), (2, .int x2), (3, va_rf r3)] → W p l e R s m args below meth c H locs cells slots (CQ G below s M0 r M') (F0 m 4 ls []) := by
  obtain ⟨hx, hb, hml, hown, hrt, hlk, hex, hK, hRm⟩ := id F
  intro w
  induction w with
  | zero => intro a0 x2 r3 M H locs cells slots ls h; cases h
  | succ w ih =>
    intro a0 x2 r3 M H locs cells slots ls h hR hl
    rw [fO_union_4] at h
    refine lr_aload_n hx hb dO_union_4 rfl (lv_at hl 2 rfl) ?_
    refine lr_ifnull (tgt := 24) hx hb dO_union_5 (by decide) (fun e_2 => ?_) (fun a_1 e_2 => ?_)
    · replace h := rz_n1 e_2 h
      refine lv_iload_n hx hb dO_union_24 rfl (lv_at hl 1 rfl) ?_
      cases h
      exact rt_i hx hb hlk hrt (Or.inl rfl) rfl hR dO_union_25
    · replace h := rz_n2 e_2 h
      refine lv_iload_n hx hb dO_union_8 rfl (lv_at hl 1 rfl) ?_
      refine lv_aload_n hx hb dO_union_9 rfl (lv_at hl 0 rfl) ?_
      refine lr_aload_n hx hb dO_union_10 rfl (lv_at hl 2 rfl) ?_
      obtain ⟨c_3, h⟩ := rz_chk h
      obtain ⟨q_7, M_5, h_6, h⟩ := rz_c h
      refine rc_V (rest := [.int x2]) (As := [va_rf r3]) hx hb (hl.1.trans hml.symm) hown hK hR hRm mfO_elements kl_O_78 hk_O rfl rfl c_3 (by simp [cat_rf, cat_i, cat_a, cat_l, cat_n]) (hC 57 _ _ _ _ h_6) dO_union_11 (fun v1 H locs cells slots ev hR => ?_) (fun x1 q1 ce1 H locs cells slots ex hR g1 g2 g3 => ?_)
      · rcases h with ⟨v_4, ev2, h⟩ | ⟨e2, ee2, -⟩
        · cases ev.symm.trans ev2
          replace h := rz_i h
          obtain ⟨x_8, rfl, h⟩ := h
          dsimp only [Option.toList, List.cons_append, List.nil_append]
          refine lv_ior hx hb dO_union_14 ?_
          refine lv_istore_n (lv' := [(2, .int (x2 ||| x_8)), (0, .ref a0), (3, va_rf r3)]) hx hb dO_union_15 rfl hl (by decide) rfl (fun ls hl => ?_)
          refine lr_aload_n hx hb dO_union_16 rfl (lv_at hl 2 rfl) ?_
          obtain ⟨a_9, e_10, h⟩ := rz_d h
          rw [e_10]
          obtain ⟨c_11, h⟩ := rz_chk h
          refine rg_getP hx hb hown hK hR hk_N 4 (by decide) kf_O_72 rfl c_11 dO_union_17 ?_
          refine lr_astore_n (lv' := [(3, va_rf (mP M_5 a_9 4)), (2, .int (x2 ||| x_8)), (0, .ref a0)]) hx hb dO_union_20 rfl hl (by decide) rfl (fun ls hl => ?_)
          refine lv_goto (tgt := 4) hx hb dO_union_21 (by decide) ?_
          exact ih a0 (x2 ||| x_8) (mP M_5 a_9 4) _ _ _ _ _ _ h hR (lv_sub hl [2, 1, 0] rfl)
        · cases ev.symm.trans ee2
      · rcases h with ⟨v2, ev2, -⟩ | ⟨e2, ee2, h⟩
        · cases ex.symm.trans ev2
        · cases ex.symm.trans ee2
          cases h
          exact rt_x hlk hex hR g1 g2 g3
def fO_union_0 (n d : Nat) (C : Cx) (a0 : Nat) (r1 : Option Nat) (M : Mem) : Rz := fO_union_4 n d C n a0 0 r1 M
set_option maxRecDepth 100000 in
set_option maxHeartbeats 4000000 in
theorem tO_union_0 {n : Nat} (F : FX p s m meth c G R M0 d "HeadCount$World" bO_union 4 (some .int)) (hC : CBs l G d C) : ∀ (a0 : Nat) (r1 : Option Nat) (M : Mem) (H : Heap) (locs : List Loc) (cells slots : Nat) (ls : Array Slot), fO_union_0 n d C a0 r1 M = some (r, M') → RL G M0 M H locs cells slots → lv_has ls 4 [(0, .ref a0), (1, va_rf r1)] → W p l e R s m args below meth c H locs cells slots (CQ G below s M0 r M') (F0 m 0 ls []) := by
  obtain ⟨hx, hb, hml, hown, hrt, hlk, hex, hK, hRm⟩ := id F
  intro a0 r1 M H locs cells slots ls h hR hl
  unfold fO_union_0 at h
  refine lv_iconst (v := 0) hx hb dO_union_0 (by decide) ?_
  refine lv_istore_n (lv' := [(2, .int 0), (0, .ref a0), (1, va_rf r1)]) hx hb dO_union_1 rfl hl (by decide) (by first | (simp [cat_rf, cat_i, cat_a, cat_l, cat_n]; done) | (simp [cat_rf, cat_i, cat_a, cat_l, cat_n]; decide)) (fun ls hl => ?_)
  refine lr_aload_n hx hb dO_union_2 rfl (lv_at hl 2 rfl) ?_
  refine lr_astore_n (lv' := [(3, va_rf r1), (2, .int 0), (0, .ref a0), (1, va_rf r1)]) hx hb dO_union_3 rfl hl (by decide) rfl (fun ls hl => ?_)
  exact tO_union_4 F hC n a0 0 r1 _ _ _ _ _ _ h hR (lv_sub hl [2, 1, 0] rfl)
set_option maxRecDepth 100000 in
set_option maxHeartbeats 4000000 in
theorem sO_union {l : Launch} {G : Gx} {n d : Nat} {C : Cx} (hC : CBs l G d C) (a0 : Nat) (r1 : Option Nat) {M M' : Mem} {r : Option Value ⊕ Nat} (h : fO_union_0 n d C a0 r1 M = some (r, M')) : CB l G (d + 1) yO_union [.ref a0, va_rf r1] M r M' := by
  intro p e R s m below meth c hx hn hm hc hlk hK hR hcap hS hU hfr hlo hrc hrs
  obtain ⟨hb, hml, hrt, hex, hown⟩ := fx_of hn hm hc (hK.w mfO_union.2.2.1 rfl #[])
  have F : FX p s m meth c G R M d "HeadCount$World" bO_union 4 (some .int) := ⟨hx, hb, hml, hown, hrt, hlk, hex, hK, hfr, hlo, by rw [← hcap]; exact hrc, hrs⟩
  rw [hml]
  have hl := lv_entry ([.ref a0, va_rf r1]) (n := 4) (by simp [lg_sl, cat_rf, cat_i, cat_a, cat_l, cat_n])
  rw [lg_entry_eq]
  generalize (lg_sl ([.ref a0, va_rf r1]) ++ List.replicate (4 - (lg_sl ([.ref a0, va_rf r1])).length) Slot.unset).toArray = ls at hl ⊢
  have hl : lv_has ls 4 [(0, .ref a0), (1, va_rf r1)] := by simpa [lv_args, cat_rf, cat_i, cat_a, cat_l, cat_n] using hl
  exact tO_union_0 F hC a0 r1 _ _ _ _ _ _ h (RL.start hR hcap hS hU) (lv_sub hl [0, 1] rfl)
def fO_meet_7 (n d : Nat) (C : Cx) : Nat → Nat → Int32 → Option Nat → Mem → Rz
  | 0, _, _, _, _ => none
  | w + 1, a0, x2, r3, M => rzN r3 (some (.inl (some (.int x2)), M)) fun a_1 => (if mK M a0 = 3 then (rzC (C 57 [.ref a0, va_rf r3] M) fun v_4 M_5 => (rzI v_4 fun x_8 => (rzD r3 fun a_9 => (if mK M_5 a_9 = 4 then (fO_meet_7 n d C w a0 (x2 &&& x_8) (mP M_5 a_9 4) M_5) else none)))) else none)
set_option maxRecDepth 100000 in
set_option maxHeartbeats 4000000 in
theorem tO_meet_7 {n : Nat} (F : FX p s m meth c G R M0 d "HeadCount$World" bO_meet 4 (some .int)) (hC : CBs l G d C) : ∀ (w : Nat) (a0 : Nat) (x2 : Int32) (r3 : Option Nat) (M : Mem) (H : Heap) (locs : List Loc) (cells slots : Nat) (ls : Array Slot), fO_meet_7 n d C w a0 x2 r3 M = some (r, M') → RL G M0 M H locs cells slots → lv_has ls 4 [(0, .ref a0), (2, .int x2), (3, va_rf r3)] → W p l e R s m args below meth c H locs cells slots (CQ G below s M0 r M') (F0 m 7 ls []) := by
  obtain ⟨hx, hb, hml, hown, hrt, hlk, hex, hK, hRm⟩ := id F
  intro w
  induction w with
  | zero => intro a0 x2 r3 M H locs cells slots ls h; cases h
  | succ w ih =>
    intro a0 x2 r3 M H locs cells slots ls h hR hl
    rw [fO_meet_7] at h
    refine lr_aload_n hx hb dO_meet_7 rfl (lv_at hl 2 rfl) ?_
    refine lr_ifnull (tgt := 27) hx hb dO_meet_8 (by decide) (fun e_2 => ?_) (fun a_1 e_2 => ?_)
    · replace h := rz_n1 e_2 h
      refine lv_iload_n hx hb dO_meet_27 rfl (lv_at hl 1 rfl) ?_
      cases h
      exact rt_i hx hb hlk hrt (Or.inl rfl) rfl hR dO_meet_28
    · replace h := rz_n2 e_2 h
      refine lv_iload_n hx hb dO_meet_11 rfl (lv_at hl 1 rfl) ?_
      refine lv_aload_n hx hb dO_meet_12 rfl (lv_at hl 0 rfl) ?_
      refine lr_aload_n hx hb dO_meet_13 rfl (lv_at hl 2 rfl) ?_
      obtain ⟨c_3, h⟩ := rz_chk h
      obtain ⟨q_7, M_5, h_6, h⟩ := rz_c h
      refine rc_V (rest := [.int x2]) (As := [va_rf r3]) hx hb (hl.1.trans hml.symm) hown hK hR hRm mfO_elements kl_O_78 hk_O rfl rfl c_3 (by simp [cat_rf, cat_i, cat_a, cat_l, cat_n]) (hC 57 _ _ _ _ h_6) dO_meet_14 (fun v1 H locs cells slots ev hR => ?_) (fun x1 q1 ce1 H locs cells slots ex hR g1 g2 g3 => ?_)
      · rcases h with ⟨v_4, ev2, h⟩ | ⟨e2, ee2, -⟩
        · cases ev.symm.trans ev2
          replace h := rz_i h
          obtain ⟨x_8, rfl, h⟩ := h
          dsimp only [Option.toList, List.cons_append, List.nil_append]
          refine lv_iand hx hb dO_meet_17 ?_
          refine lv_istore_n (lv' := [(2, .int (x2 &&& x_8)), (0, .ref a0), (3, va_rf r3)]) hx hb dO_meet_18 rfl hl (by decide) rfl (fun ls hl => ?_)
          refine lr_aload_n hx hb dO_meet_19 rfl (lv_at hl 2 rfl) ?_
          obtain ⟨a_9, e_10, h⟩ := rz_d h
          rw [e_10]
          obtain ⟨c_11, h⟩ := rz_chk h
          refine rg_getP hx hb hown hK hR hk_N 4 (by decide) kf_O_72 rfl c_11 dO_meet_20 ?_
          refine lr_astore_n (lv' := [(3, va_rf (mP M_5 a_9 4)), (2, .int (x2 &&& x_8)), (0, .ref a0)]) hx hb dO_meet_23 rfl hl (by decide) rfl (fun ls hl => ?_)
          refine lv_goto (tgt := 7) hx hb dO_meet_24 (by decide) ?_
          exact ih a0 (x2 &&& x_8) (mP M_5 a_9 4) _ _ _ _ _ _ h hR (lv_sub hl [2, 1, 0] rfl)
        · cases ev.symm.trans ee2
      · rcases h with ⟨v2, ev2, -⟩ | ⟨e2, ee2, h⟩
        · cases ex.symm.trans ev2
        · cases ex.symm.trans ee2
          cases h
          exact rt_x hlk hex hR g1 g2 g3
def fO_meet_0 (n d : Nat) (C : Cx) (a0 : Nat) (r1 : Option Nat) (M : Mem) : Rz := if mK M a0 = 3 then (fO_meet_7 n d C n a0 (mI M a0 1) r1 M) else none
set_option maxRecDepth 100000 in
set_option maxHeartbeats 4000000 in
theorem tO_meet_0 {n : Nat} (F : FX p s m meth c G R M0 d "HeadCount$World" bO_meet 4 (some .int)) (hC : CBs l G d C) : ∀ (a0 : Nat) (r1 : Option Nat) (M : Mem) (H : Heap) (locs : List Loc) (cells slots : Nat) (ls : Array Slot), fO_meet_0 n d C a0 r1 M = some (r, M') → RL G M0 M H locs cells slots → lv_has ls 4 [(0, .ref a0), (1, va_rf r1)] → W p l e R s m args below meth c H locs cells slots (CQ G below s M0 r M') (F0 m 0 ls []) := by
  obtain ⟨hx, hb, hml, hown, hrt, hlk, hex, hK, hRm⟩ := id F
  intro a0 r1 M H locs cells slots ls h hR hl
  unfold fO_meet_0 at h
  refine lv_aload_n hx hb dO_meet_0 rfl (lv_at hl 0 rfl) ?_
  obtain ⟨c_1, h⟩ := rz_chk h
  refine rg_getI hx hb hown hK hR hk_O 1 (by decide) kf_O_27 rfl c_1 dO_meet_1 ?_
  refine lv_istore_n (lv' := [(2, .int (mI M a0 1)), (0, .ref a0), (1, va_rf r1)]) hx hb dO_meet_4 rfl hl (by decide) (by first | (simp [cat_rf, cat_i, cat_a, cat_l, cat_n]; done) | (simp [cat_rf, cat_i, cat_a, cat_l, cat_n]; decide)) (fun ls hl => ?_)
  refine lr_aload_n hx hb dO_meet_5 rfl (lv_at hl 2 rfl) ?_
  refine lr_astore_n (lv' := [(3, va_rf r1), (2, .int (mI M a0 1)), (0, .ref a0), (1, va_rf r1)]) hx hb dO_meet_6 rfl hl (by decide) rfl (fun ls hl => ?_)
  exact tO_meet_7 F hC n a0 (mI M a0 1) r1 _ _ _ _ _ _ h hR (lv_sub hl [2, 1, 0] rfl)
set_option maxRecDepth 100000 in
set_option maxHeartbeats 4000000 in
theorem sO_meet {l : Launch} {G : Gx} {n d : Nat} {C : Cx} (hC : CBs l G d C) (a0 : Nat) (r1 : Option Nat) {M M' : Mem} {r : Option Value ⊕ Nat} (h : fO_meet_0 n d C a0 r1 M = some (r, M')) : CB l G (d + 1) yO_meet [.ref a0, va_rf r1] M r M' := by
  intro p e R s m below meth c hx hn hm hc hlk hK hR hcap hS hU hfr hlo hrc hrs
  obtain ⟨hb, hml, hrt, hex, hown⟩ := fx_of hn hm hc (hK.w mfO_meet.2.2.1 rfl #[])
  have F : FX p s m meth c G R M d "HeadCount$World" bO_meet 4 (some .int) := ⟨hx, hb, hml, hown, hrt, hlk, hex, hK, hfr, hlo, by rw [← hcap]; exact hrc, hrs⟩
  rw [hml]
  have hl := lv_entry ([.ref a0, va_rf r1]) (n := 4) (by simp [lg_sl, cat_rf, cat_i, cat_a, cat_l, cat_n])
  rw [lg_entry_eq]
  generalize (lg_sl ([.ref a0, va_rf r1]) ++ List.replicate (4 - (lg_sl ([.ref a0, va_rf r1])).length) Slot.unset).toArray = ls at hl ⊢
  have hl : lv_has ls 4 [(0, .ref a0), (1, va_rf r1)] := by simpa [lv_args, cat_rf, cat_i, cat_a, cat_l, cat_n] using hl
  exact tO_meet_0 F hC a0 r1 _ _ _ _ _ _ h (RL.start hR hcap hS hU) (lv_sub hl [0, 1] rfl)
def fO_isTrueOfSum_73 (n d : Nat) (C : Cx) (xs0 : Int32) (M : Mem) : Rz := if fits .boolean (.int xs0) = true then (some (.inl (some (.int xs0)), M)) else none
set_option maxRecDepth 100000 in
set_option maxHeartbeats 4000000 in
theorem tO_isTrueOfSum_73 {n : Nat} (F : FX p s m meth c G R M0 d "HeadCount$World" bO_isTrueOfSum 4 (some .boolean)) (hC : CBs l G d C) : ∀ (xs0 : Int32) (M : Mem) (H : Heap) (locs : List Loc) (cells slots : Nat) (ls : Array Slot), fO_isTrueOfSum_73 n d C xs0 M = some (r, M') → RL G M0 M H locs cells slots → lv_has ls 4 [] → W p l e R s m args below meth c H locs cells slots (CQ G below s M0 r M') (F0 m 73 ls [.int xs0]) := by
  obtain ⟨hx, hb, hml, hown, hrt, hlk, hex, hK, hRm⟩ := id F
  intro xs0 M H locs cells slots ls h hR hl
  unfold fO_isTrueOfSum_73 at h
  obtain ⟨c_1, h⟩ := rz_chk h
  cases h
  exact rt_i hx hb hlk hrt (Or.inr (Or.inr rfl)) c_1 hR dO_isTrueOfSum_73
def fO_isTrueOfSum_83 (n d : Nat) (C : Cx) (xs0 : Int32) (M : Mem) : Rz := if fits .boolean (.int xs0) = true then (some (.inl (some (.int xs0)), M)) else none
set_option maxRecDepth 100000 in
set_option maxHeartbeats 4000000 in
theorem tO_isTrueOfSum_83 {n : Nat} (F : FX p s m meth c G R M0 d "HeadCount$World" bO_isTrueOfSum 4 (some .boolean)) (hC : CBs l G d C) : ∀ (xs0 : Int32) (M : Mem) (H : Heap) (locs : List Loc) (cells slots : Nat) (ls : Array Slot), fO_isTrueOfSum_83 n d C xs0 M = some (r, M') → RL G M0 M H locs cells slots → lv_has ls 4 [] → W p l e R s m args below meth c H locs cells slots (CQ G below s M0 r M') (F0 m 83 ls [.int xs0]) := by
  obtain ⟨hx, hb, hml, hown, hrt, hlk, hex, hK, hRm⟩ := id F
  intro xs0 M H locs cells slots ls h hR hl
  unfold fO_isTrueOfSum_83 at h
  obtain ⟨c_1, h⟩ := rz_chk h
  cases h
  exact rt_i hx hb hlk hrt (Or.inr (Or.inr rfl)) c_1 hR dO_isTrueOfSum_83
def fO_isTrueOfSum_105 (n d : Nat) (C : Cx) (xs0 : Int32) (M : Mem) : Rz := if fits .boolean (.int xs0) = true then (some (.inl (some (.int xs0)), M)) else none
set_option maxRecDepth 100000 in
set_option maxHeartbeats 4000000 in
theorem tO_isTrueOfSum_105 {n : Nat} (F : FX p s m meth c G R M0 d "HeadCount$World" bO_isTrueOfSum 4 (some .boolean)) (hC : CBs l G d C) : ∀ (xs0 : Int32) (M : Mem) (H : Heap) (locs : List Loc) (cells slots : Nat) (ls : Array Slot), fO_isTrueOfSum_105 n d C xs0 M = some (r, M') → RL G M0 M H locs cells slots → lv_has ls 4 [] → W p l e R s m args below meth c H locs cells slots (CQ G below s M0 r M') (F0 m 105 ls [.int xs0]) := by
  obtain ⟨hx, hb, hml, hown, hrt, hlk, hex, hK, hRm⟩ := id F
  intro xs0 M H locs cells slots ls h hR hl
  unfold fO_isTrueOfSum_105 at h
  obtain ⟨c_1, h⟩ := rz_chk h
  cases h
  exact rt_i hx hb hlk hrt (Or.inr (Or.inr rfl)) c_1 hR dO_isTrueOfSum_105
def fO_isTrueOfSum_104 (n d : Nat) (C : Cx) (M : Mem) : Rz := fO_isTrueOfSum_105 n d C 0 M
set_option maxRecDepth 100000 in
set_option maxHeartbeats 4000000 in
theorem tO_isTrueOfSum_104 {n : Nat} (F : FX p s m meth c G R M0 d "HeadCount$World" bO_isTrueOfSum 4 (some .boolean)) (hC : CBs l G d C) : ∀ (M : Mem) (H : Heap) (locs : List Loc) (cells slots : Nat) (ls : Array Slot), fO_isTrueOfSum_104 n d C M = some (r, M') → RL G M0 M H locs cells slots → lv_has ls 4 [] → W p l e R s m args below meth c H locs cells slots (CQ G below s M0 r M') (F0 m 104 ls []) := by
  obtain ⟨hx, hb, hml, hown, hrt, hlk, hex, hK, hRm⟩ := id F
  intro M H locs cells slots ls h hR hl
  unfold fO_isTrueOfSum_104 at h
  refine lv_iconst (v := 0) hx hb dO_isTrueOfSum_104 (by decide) ?_
  exact tO_isTrueOfSum_105 F hC 0 _ _ _ _ _ _ h hR (lv_sub hl [] rfl)
def fO_isTrueOfSum_7 (n d : Nat) (C : Cx) : Nat → Nat → Option Nat → Int32 → Option Nat → Mem → Rz
  | 0, _, _, _, _, _ => none
  | w + 1, a0, r1, x2, r3, M => rzN r3 (rzD r1 fun a_3 => (if mK M a_3 = 4 then (if (mI M a_3 0) = 60 then (if 0 ≤ x2 then (fO_isTrueOfSum_73 n d C 0 M) else (fO_isTrueOfSum_73 n d C 1 M)) else (if (mI M a_3 0) = 61 then (if x2 = 0 then (fO_isTrueOfSum_83 n d C 1 M) else (fO_isTrueOfSum_83 n d C 0 M)) else (if (mI M a_3 1) = 0 then (fO_isTrueOfSum_104 n d C M) else (if ¬ (mI M a_3 1) = 0 then (if (x2 - x2 / (mI M a_3 1) * (mI M a_3 1)) = 0 then (fO_isTrueOfSum_105 n d C 1 M) else (fO_isTrueOfSum_104 n d C M)) else none)))) else none)) fun a_1 => (if mK M a_1 = 4 then (if mK M a0 = 3 then (rzC (C 61 [.ref a0, va_rf r3] M) fun v_15 M_16 => (rzI v_15 fun x_19 => (rzD r3 fun a_20 => (if mK M_16 a_20 = 4 then (fO_isTrueOfSum_7 n d C w a0 r1 (x2 + ((mI M a_1 1) * x_19)) (mP M_16 a_20 4) M_16) else none)))) else none) else none)
set_option maxRecDepth 100000 in
set_option maxHeartbeats 4000000 in
theorem tO_isTrueOfSum_7 {n : Nat} (F : FX p s m meth c G R M0 d "HeadCount$World" bO_isTrueOfSum 4 (some .boolean)) (hC : CBs l G d C) : ∀ (w : Nat) (a0 : Nat) (r1 : Option Nat) (x2 : Int32) (r3 : Option Nat) (M : Mem) (H : Heap) (locs : List Loc) (cells slots : Nat) (ls : Array Slot), fO_isTrueOfSum_7 n d C w a0 r1 x2 r3 M = some (r, M') → RL G M0 M H locs cells slots → lv_has ls 4 [(0, .ref a0), (1, va_rf r1), (2, .int x2), (3, va_rf r3)] → W p l e R s m args below meth c H locs cells slots (CQ G below s M0 r M') (F0 m 7 ls []) := by
  obtain ⟨hx, hb, hml, hown, hrt, hlk, hex, hK, hRm⟩ := id F
  intro w
  induction w with
  | zero => intro a0 r1 x2 r3 M H locs cells slots ls h; cases h
  | succ w ih =>
    intro a0 r1 x2 r3 M H locs cells slots ls h hR hl
    rw [fO_isTrueOfSum_7] at h
    refine lr_aload_n hx hb dO_isTrueOfSum_7 rfl (lv_at hl 3 rfl) ?_
    refine lr_ifnull (tgt := 32) hx hb dO_isTrueOfSum_8 (by decide) (fun e_2 => ?_) (fun a_1 e_2 => ?_)
    · replace h := rz_n1 e_2 h
      refine lr_aload_n hx hb dO_isTrueOfSum_32 rfl (lv_at hl 1 rfl) ?_
      obtain ⟨a_3, e_4, h⟩ := rz_d h
      rw [e_4]
      obtain ⟨c_5, h⟩ := rz_chk h
      refine rg_getI hx hb hown hK hR hk_N 0 (by decide) kf_O_30 rfl c_5 dO_isTrueOfSum_33 ?_
      by_cases c_6 : (mI M a_3 0) = 60
      · replace h := rz_t c_6 h
        refine lv_lookup (off := 28) (tgt := 64) hx hb dO_isTrueOfSum_36 (by decide) (by rw [c_6]; decide) (by decide) ?_
        refine lv_iload_n hx hb dO_isTrueOfSum_64 rfl (lv_at hl 2 rfl) ?_
        refine lv_if_ge (tgt := 72) hx hb dO_isTrueOfSum_65 (by decide) (fun c_7 => ?_) (fun c_7 => ?_)
        · replace h := rz_t c_7 h
          refine lv_iconst (v := 0) hx hb dO_isTrueOfSum_72 (by decide) ?_
          exact tO_isTrueOfSum_73 F hC 0 _ _ _ _ _ _ h hR (lv_sub hl [] rfl)
        · replace h := rz_f c_7 h
          refine lv_iconst (v := 1) hx hb dO_isTrueOfSum_68 (by decide) ?_
          refine lv_goto (tgt := 73) hx hb dO_isTrueOfSum_69 (by decide) ?_
          exact tO_isTrueOfSum_73 F hC 1 _ _ _ _ _ _ h hR (lv_sub hl [] rfl)
      · replace h := rz_f c_6 h
        by_cases c_8 : (mI M a_3 0) = 61
        · replace h := rz_t c_8 h
          refine lv_lookup (off := 38) (tgt := 74) hx hb dO_isTrueOfSum_36 (by decide) (by rw [c_8]; decide) (by decide) ?_
          refine lv_iload_n hx hb dO_isTrueOfSum_74 rfl (lv_at hl 2 rfl) ?_
          refine lv_if_ne (tgt := 82) hx hb dO_isTrueOfSum_75 (by decide) (fun c_9 => ?_) (fun c_9 => ?_)
          · replace h := rz_f c_9 h
            refine lv_iconst (v := 0) hx hb dO_isTrueOfSum_82 (by decide) ?_
            exact tO_isTrueOfSum_83 F hC 0 _ _ _ _ _ _ h hR (lv_sub hl [] rfl)
          · replace h := rz_t c_9 h
            refine lv_iconst (v := 1) hx hb dO_isTrueOfSum_78 (by decide) ?_
            refine lv_goto (tgt := 83) hx hb dO_isTrueOfSum_79 (by decide) ?_
            exact tO_isTrueOfSum_83 F hC 1 _ _ _ _ _ _ h hR (lv_sub hl [] rfl)
        · replace h := rz_f c_8 h
          refine lv_lookup (off := 48) (tgt := 84) hx hb dO_isTrueOfSum_36 (by decide) ((lv_osw c_6 (k := 60) (by decide)).trans ((lv_osw c_8 (k := 61) (by decide)).trans rfl)) (by decide) ?_
          refine lr_aload_n hx hb dO_isTrueOfSum_84 rfl (lv_at hl 1 rfl) ?_
          rw [e_4]
          refine rg_getI hx hb hown hK hR hk_N 1 (by decide) kf_O_82 rfl c_5 dO_isTrueOfSum_85 ?_
          refine lv_if_eq (tgt := 104) hx hb dO_isTrueOfSum_88 (by decide) (fun c_10 => ?_) (fun c_10 => ?_)
          · replace h := rz_t c_10 h
            exact tO_isTrueOfSum_104 F hC _ _ _ _ _ _ h hR (lv_sub hl [] rfl)
          · replace h := rz_f c_10 h
            refine lv_iload_n hx hb dO_isTrueOfSum_91 rfl (lv_at hl 2 rfl) ?_
            refine lr_aload_n hx hb dO_isTrueOfSum_92 rfl (lv_at hl 1 rfl) ?_
            rw [e_4]
            refine rg_getI hx hb hown hK hR hk_N 1 (by decide) kf_O_82 rfl c_5 dO_isTrueOfSum_93 ?_
            obtain ⟨c_11, h⟩ := rz_chk h
            refine lv_irem hx hb dO_isTrueOfSum_96 c_11 ?_
            refine lv_if_ne (tgt := 104) hx hb dO_isTrueOfSum_97 (by decide) (fun c_12 => ?_) (fun c_12 => ?_)
            · replace h := rz_f c_12 h
              exact tO_isTrueOfSum_104 F hC _ _ _ _ _ _ h hR (lv_sub hl [] rfl)
            · replace h := rz_t c_12 h
              refine lv_iconst (v := 1) hx hb dO_isTrueOfSum_100 (by decide) ?_
              refine lv_goto (tgt := 105) hx hb dO_isTrueOfSum_101 (by decide) ?_
              exact tO_isTrueOfSum_105 F hC 1 _ _ _ _ _ _ h hR (lv_sub hl [] rfl)
    · replace h := rz_n2 e_2 h
      refine lv_iload_n hx hb dO_isTrueOfSum_11 rfl (lv_at hl 2 rfl) ?_
      refine lr_aload_n hx hb dO_isTrueOfSum_12 rfl (lv_at hl 3 rfl) ?_
      rw [e_2]
      obtain ⟨c_13, h⟩ := rz_chk h
      refine rg_getI hx hb hown hK hR hk_N 1 (by decide) kf_O_82 rfl c_13 dO_isTrueOfSum_13 ?_
      refine lv_aload_n hx hb dO_isTrueOfSum_16 rfl (lv_at hl 0 rfl) ?_
      refine lr_aload_n hx hb dO_isTrueOfSum_17 rfl (lv_at hl 3 rfl) ?_
      obtain ⟨c_14, h⟩ := rz_chk h
      obtain ⟨q_18, M_16, h_17, h⟩ := rz_c h
      refine rc_V (rest := [.int (mI M a_1 1), .int x2]) (As := [va_rf r3]) hx hb (hl.1.trans hml.symm) hown hK hR hRm mfO_amount kl_O_85 hk_O rfl rfl c_14 (by simp [cat_rf, cat_i, cat_a, cat_l, cat_n]) (hC 61 _ _ _ _ h_17) dO_isTrueOfSum_18 (fun v1 H locs cells slots ev hR => ?_) (fun x1 q1 ce1 H locs cells slots ex hR g1 g2 g3 => ?_)
      · rcases h with ⟨v_15, ev2, h⟩ | ⟨e2, ee2, -⟩
        · cases ev.symm.trans ev2
          replace h := rz_i h
          obtain ⟨x_19, rfl, h⟩ := h
          dsimp only [Option.toList, List.cons_append, List.nil_append]
          refine lv_imul hx hb dO_isTrueOfSum_21 ?_
          refine lv_iadd hx hb dO_isTrueOfSum_22 ?_
          refine lv_istore_n (lv' := [(2, .int (x2 + ((mI M a_1 1) * x_19))), (0, .ref a0), (1, va_rf r1), (3, va_rf r3)]) hx hb dO_isTrueOfSum_23 rfl hl (by decide) (by first | (simp [cat_rf, cat_i, cat_a, cat_l, cat_n]; done) | (simp [cat_rf, cat_i, cat_a, cat_l, cat_n]; decide)) (fun ls hl => ?_)
          refine lr_aload_n hx hb dO_isTrueOfSum_24 rfl (lv_at hl 3 rfl) ?_
          obtain ⟨a_20, e_21, h⟩ := rz_d h
          rw [e_21]
          obtain ⟨c_22, h⟩ := rz_chk h
          refine rg_getP hx hb hown hK hR hk_N 4 (by decide) kf_O_72 rfl c_22 dO_isTrueOfSum_25 ?_
          refine lr_astore_n (lv' := [(3, va_rf (mP M_16 a_20 4)), (2, .int (x2 + ((mI M a_1 1) * x_19))), (0, .ref a0), (1, va_rf r1)]) hx hb dO_isTrueOfSum_28 rfl hl (by decide) rfl (fun ls hl => ?_)
          refine lv_goto (tgt := 7) hx hb dO_isTrueOfSum_29 (by decide) ?_
          exact ih a0 r1 (x2 + ((mI M a_1 1) * x_19)) (mP M_16 a_20 4) _ _ _ _ _ _ h hR (lv_sub hl [2, 3, 1, 0] rfl)
        · cases ev.symm.trans ee2
      · rcases h with ⟨v2, ev2, -⟩ | ⟨e2, ee2, h⟩
        · cases ex.symm.trans ev2
        · cases ex.symm.trans ee2
          cases h
          exact rt_x hlk hex hR g1 g2 g3
def fO_isTrueOfSum_0 (n d : Nat) (C : Cx) (a0 : Nat) (r1 : Option Nat) (M : Mem) : Rz := rzD r1 fun a_1 => (if mK M a_1 = 4 then (fO_isTrueOfSum_7 n d C n a0 r1 0 (mP M a_1 3) M) else none)
set_option maxRecDepth 100000 in
set_option maxHeartbeats 4000000 in
theorem tO_isTrueOfSum_0 {n : Nat} (F : FX p s m meth c G R M0 d "HeadCount$World" bO_isTrueOfSum 4 (some .boolean)) (hC : CBs l G d C) : ∀ (a0 : Nat) (r1 : Option Nat) (M : Mem) (H : Heap) (locs : List Loc) (cells slots : Nat) (ls : Array Slot), fO_isTrueOfSum_0 n d C a0 r1 M = some (r, M') → RL G M0 M H locs cells slots → lv_has ls 4 [(0, .ref a0), (1, va_rf r1)] → W p l e R s m args below meth c H locs cells slots (CQ G below s M0 r M') (F0 m 0 ls []) := by
  obtain ⟨hx, hb, hml, hown, hrt, hlk, hex, hK, hRm⟩ := id F
  intro a0 r1 M H locs cells slots ls h hR hl
  unfold fO_isTrueOfSum_0 at h
  refine lv_iconst (v := 0) hx hb dO_isTrueOfSum_0 (by decide) ?_
  refine lv_istore_n (lv' := [(2, .int 0), (0, .ref a0), (1, va_rf r1)]) hx hb dO_isTrueOfSum_1 rfl hl (by decide) (by first | (simp [cat_rf, cat_i, cat_a, cat_l, cat_n]; done) | (simp [cat_rf, cat_i, cat_a, cat_l, cat_n]; decide)) (fun ls hl => ?_)
  refine lr_aload_n hx hb dO_isTrueOfSum_2 rfl (lv_at hl 2 rfl) ?_
  obtain ⟨a_1, e_2, h⟩ := rz_d h
  rw [e_2]
  obtain ⟨c_3, h⟩ := rz_chk h
  refine rg_getP hx hb hown hK hR hk_N 3 (by decide) kf_O_55 rfl c_3 dO_isTrueOfSum_3 ?_
  refine lr_astore_n (lv' := [(3, va_rf (mP M a_1 3)), (2, .int 0), (0, .ref a0), (1, va_rf r1)]) hx hb dO_isTrueOfSum_6 rfl hl (by decide) rfl (fun ls hl => ?_)
  exact tO_isTrueOfSum_7 F hC n a0 r1 0 (mP M a_1 3) _ _ _ _ _ _ h hR (lv_sub hl [2, 3, 1, 0] rfl)
set_option maxRecDepth 100000 in
set_option maxHeartbeats 4000000 in
theorem sO_isTrueOfSum {l : Launch} {G : Gx} {n d : Nat} {C : Cx} (hC : CBs l G d C) (a0 : Nat) (r1 : Option Nat) {M M' : Mem} {r : Option Value ⊕ Nat} (h : fO_isTrueOfSum_0 n d C a0 r1 M = some (r, M')) : CB l G (d + 1) yO_isTrueOfSum [.ref a0, va_rf r1] M r M' := by
  intro p e R s m below meth c hx hn hm hc hlk hK hR hcap hS hU hfr hlo hrc hrs
  obtain ⟨hb, hml, hrt, hex, hown⟩ := fx_of hn hm hc (hK.w mfO_isTrueOfSum.2.2.1 rfl #[])
  have F : FX p s m meth c G R M d "HeadCount$World" bO_isTrueOfSum 4 (some .boolean) := ⟨hx, hb, hml, hown, hrt, hlk, hex, hK, hfr, hlo, by rw [← hcap]; exact hrc, hrs⟩
  rw [hml]
  have hl := lv_entry ([.ref a0, va_rf r1]) (n := 4) (by simp [lg_sl, cat_rf, cat_i, cat_a, cat_l, cat_n])
  rw [lg_entry_eq]
  generalize (lg_sl ([.ref a0, va_rf r1]) ++ List.replicate (4 - (lg_sl ([.ref a0, va_rf r1])).length) Slot.unset).toArray = ls at hl ⊢
  have hl : lv_has ls 4 [(0, .ref a0), (1, va_rf r1)] := by simpa [lv_args, cat_rf, cat_i, cat_a, cat_l, cat_n] using hl
  exact tO_isTrueOfSum_0 F hC a0 r1 _ _ _ _ _ _ h (RL.start hR hcap hS hU) (lv_sub hl [0, 1] rfl)
def fO_amount_0 (n d : Nat) (C : Cx) (a0 : Nat) (r1 : Option Nat) (M : Mem) : Rz := rzD r1 fun a_1 => (if mK M a_1 = 4 then (if (mI M a_1 0) = 35 then (if mK M a0 = 3 then (rzC (C 57 [.ref a0, va_rf (mP M a_1 3)] M) fun v_6 M_7 => (rzI v_6 fun x_10 => (rzC (C 62 [.int x_10] M_7) fun v_11 M_12 => (rzI v_11 fun x_15 => (some (.inl (some (.int x_15)), M_12)))))) else none) else (if (mI M a_1 0) = 49 then (some (.inl (some (.int 1)), M)) else (if (mI M a_1 0) = 110 then (if mK M a0 = 3 then (some (.inl (some (.int (mI M a0 0))), M)) else none) else (if mK M a0 = 3 then (rzC (C 52 [.ref a0, .int (mI M a_1 2)] M) fun v_20 M_21 => (rzI v_20 fun x_24 => (some (.inl (some (.int x_24)), M_21)))) else none)))) else none)
set_option maxRecDepth 100000 in
set_option maxHeartbeats 4000000 in
theorem tO_amount_0 {n : Nat} (F : FX p s m meth c G R M0 d "HeadCount$World" bO_amount 2 (some .int)) (hC : CBs l G d C) : ∀ (a0 : Nat) (r1 : Option Nat) (M : Mem) (H : Heap) (locs : List Loc) (cells slots : Nat) (ls : Array Slot), fO_amount_0 n d C a0 r1 M = some (r, M') → RL G M0 M H locs cells slots → lv_has ls 2 [(0, .ref a0), (1, va_rf r1)] → W p l e R s m args below meth c H locs cells slots (CQ G below s M0 r M') (F0 m 0 ls []) := by
  obtain ⟨hx, hb, hml, hown, hrt, hlk, hex, hK, hRm⟩ := id F
  intro a0 r1 M H locs cells slots ls h hR hl
  unfold fO_amount_0 at h
  refine lr_aload_n hx hb dO_amount_0 rfl (lv_at hl 1 rfl) ?_
  obtain ⟨a_1, e_2, h⟩ := rz_d h
  rw [e_2]
  obtain ⟨c_3, h⟩ := rz_chk h
  refine rg_getI hx hb hown hK hR hk_N 0 (by decide) kf_O_30 rfl c_3 dO_amount_1 ?_
  by_cases c_4 : (mI M a_1 0) = 35
  · replace h := rz_t c_4 h
    refine lv_lookup (off := 43) (tgt := 47) hx hb dO_amount_4 (by decide) (by rw [c_4]; decide) (by decide) ?_
    refine lv_aload_n hx hb dO_amount_47 rfl (lv_at hl 0 rfl) ?_
    refine lr_aload_n hx hb dO_amount_48 rfl (lv_at hl 1 rfl) ?_
    rw [e_2]
    refine rg_getP hx hb hown hK hR hk_N 3 (by decide) kf_O_55 rfl c_3 dO_amount_49 ?_
    obtain ⟨c_5, h⟩ := rz_chk h
    obtain ⟨q_9, M_7, h_8, h⟩ := rz_c h
    refine rc_V (rest := []) (As := [va_rf (mP M a_1 3)]) hx hb (hl.1.trans hml.symm) hown hK hR hRm mfO_elements kl_O_78 hk_O rfl rfl c_5 (by simp [cat_rf, cat_i, cat_a, cat_l, cat_n]) (hC 57 _ _ _ _ h_8) dO_amount_52 (fun v1 H locs cells slots ev hR => ?_) (fun x1 q1 ce1 H locs cells slots ex hR g1 g2 g3 => ?_)
    · rcases h with ⟨v_6, ev2, h⟩ | ⟨e2, ee2, -⟩
      · cases ev.symm.trans ev2
        replace h := rz_i h
        obtain ⟨x_10, rfl, h⟩ := h
        dsimp only [Option.toList, List.cons_append, List.nil_append]
        obtain ⟨q_14, M_12, h_13, h⟩ := rz_c h
        refine rc_S (rest := []) (As := [.int x_10]) hx hb (hl.1.trans hml.symm) hown hK hR hRm mfI_bitCount kl_O_88 rfl (by simp [cat_rf, cat_i, cat_a, cat_l, cat_n]) (hC 62 _ _ _ _ h_13) dO_amount_55 (fun v1 H locs cells slots ev hR => ?_) (fun x1 q1 ce1 H locs cells slots ex hR g1 g2 g3 => ?_)
        · rcases h with ⟨v_11, ev2, h⟩ | ⟨e2, ee2, -⟩
          · cases ev.symm.trans ev2
            replace h := rz_i h
            obtain ⟨x_15, rfl, h⟩ := h
            dsimp only [Option.toList, List.cons_append, List.nil_append]
            cases h
            exact rt_i hx hb hlk hrt (Or.inl rfl) rfl hR dO_amount_58
          · cases ev.symm.trans ee2
        · rcases h with ⟨v2, ev2, -⟩ | ⟨e2, ee2, h⟩
          · cases ex.symm.trans ev2
          · cases ex.symm.trans ee2
            cases h
            exact rt_x hlk hex hR g1 g2 g3
      · cases ev.symm.trans ee2
    · rcases h with ⟨v2, ev2, -⟩ | ⟨e2, ee2, h⟩
      · cases ex.symm.trans ev2
      · cases ex.symm.trans ee2
        cases h
        exact rt_x hlk hex hR g1 g2 g3
  · replace h := rz_f c_4 h
    by_cases c_16 : (mI M a_1 0) = 49
    · replace h := rz_t c_16 h
      refine lv_lookup (off := 36) (tgt := 40) hx hb dO_amount_4 (by decide) (by rw [c_16]; decide) (by decide) ?_
      refine lv_iconst (v := 1) hx hb dO_amount_40 (by decide) ?_
      cases h
      exact rt_i hx hb hlk hrt (Or.inl rfl) rfl hR dO_amount_41
    · replace h := rz_f c_16 h
      by_cases c_17 : (mI M a_1 0) = 110
      · replace h := rz_t c_17 h
        refine lv_lookup (off := 38) (tgt := 42) hx hb dO_amount_4 (by decide) (by rw [c_17]; decide) (by decide) ?_
        refine lv_aload_n hx hb dO_amount_42 rfl (lv_at hl 0 rfl) ?_
        obtain ⟨c_18, h⟩ := rz_chk h
        refine rg_getI hx hb hown hK hR hk_O 0 (by decide) kf_O_23 rfl c_18 dO_amount_43 ?_
        cases h
        exact rt_i hx hb hlk hrt (Or.inl rfl) rfl hR dO_amount_46
      · replace h := rz_f c_17 h
        refine lv_lookup (off := 55) (tgt := 59) hx hb dO_amount_4 (by decide) ((lv_osw c_4 (k := 35) (by decide)).trans ((lv_osw c_16 (k := 49) (by decide)).trans ((lv_osw c_17 (k := 110) (by decide)).trans rfl))) (by decide) ?_
        refine lv_aload_n hx hb dO_amount_59 rfl (lv_at hl 0 rfl) ?_
        refine lr_aload_n hx hb dO_amount_60 rfl (lv_at hl 1 rfl) ?_
        rw [e_2]
        refine rg_getI hx hb hown hK hR hk_N 2 (by decide) kf_O_40 rfl c_3 dO_amount_61 ?_
        obtain ⟨c_19, h⟩ := rz_chk h
        obtain ⟨q_23, M_21, h_22, h⟩ := rz_c h
        refine rc_V (rest := []) (As := [.int (mI M a_1 2)]) hx hb (hl.1.trans hml.symm) hown hK hR hRm mfO_value kl_O_75 hk_O rfl rfl c_19 (by simp [cat_rf, cat_i, cat_a, cat_l, cat_n]) (hC 52 _ _ _ _ h_22) dO_amount_64 (fun v1 H locs cells slots ev hR => ?_) (fun x1 q1 ce1 H locs cells slots ex hR g1 g2 g3 => ?_)
        · rcases h with ⟨v_20, ev2, h⟩ | ⟨e2, ee2, -⟩
          · cases ev.symm.trans ev2
            replace h := rz_i h
            obtain ⟨x_24, rfl, h⟩ := h
            dsimp only [Option.toList, List.cons_append, List.nil_append]
            cases h
            exact rt_i hx hb hlk hrt (Or.inl rfl) rfl hR dO_amount_67
          · cases ev.symm.trans ee2
        · rcases h with ⟨v2, ev2, -⟩ | ⟨e2, ee2, h⟩
          · cases ex.symm.trans ev2
          · cases ex.symm.trans ee2
            cases h
            exact rt_x hlk hex hR g1 g2 g3
set_option maxRecDepth 100000 in
set_option maxHeartbeats 4000000 in
theorem sO_amount {l : Launch} {G : Gx} {n d : Nat} {C : Cx} (hC : CBs l G d C) (a0 : Nat) (r1 : Option Nat) {M M' : Mem} {r : Option Value ⊕ Nat} (h : fO_amount_0 n d C a0 r1 M = some (r, M')) : CB l G (d + 1) yO_amount [.ref a0, va_rf r1] M r M' := by
  intro p e R s m below meth c hx hn hm hc hlk hK hR hcap hS hU hfr hlo hrc hrs
  obtain ⟨hb, hml, hrt, hex, hown⟩ := fx_of hn hm hc (hK.w mfO_amount.2.2.1 rfl #[])
  have F : FX p s m meth c G R M d "HeadCount$World" bO_amount 2 (some .int) := ⟨hx, hb, hml, hown, hrt, hlk, hex, hK, hfr, hlo, by rw [← hcap]; exact hrc, hrs⟩
  rw [hml]
  have hl := lv_entry ([.ref a0, va_rf r1]) (n := 2) (by simp [lg_sl, cat_rf, cat_i, cat_a, cat_l, cat_n])
  rw [lg_entry_eq]
  generalize (lg_sl ([.ref a0, va_rf r1]) ++ List.replicate (2 - (lg_sl ([.ref a0, va_rf r1])).length) Slot.unset).toArray = ls at hl ⊢
  have hl : lv_has ls 2 [(0, .ref a0), (1, va_rf r1)] := by simpa [lv_args, cat_rf, cat_i, cat_a, cat_l, cat_n] using hl
  exact tO_amount_0 F hC a0 r1 _ _ _ _ _ _ h (RL.start hR hcap hS hU) (lv_sub hl [0, 1] rfl)
def fI_bitCount_0 (n d : Nat) (C : Cx) (x0 : Int32) (M : Mem) : Rz := some (.inl (some (.int ((((((((x0 - (((x0.toUInt32 >>> ((1 : Int32).toUInt32 &&& Int32.toUInt32 31)).toInt32) &&& 1431655765)) &&& 858993459) + ((((x0 - (((x0.toUInt32 >>> ((1 : Int32).toUInt32 &&& Int32.toUInt32 31)).toInt32) &&& 1431655765)).toUInt32 >>> ((2 : Int32).toUInt32 &&& Int32.toUInt32 31)).toInt32) &&& 858993459)) + (((((x0 - (((x0.toUInt32 >>> ((1 : Int32).toUInt32 &&& Int32.toUInt32 31)).toInt32) &&& 1431655765)) &&& 858993459) + ((((x0 - (((x0.toUInt32 >>> ((1 : Int32).toUInt32 &&& Int32.toUInt32 31)).toInt32) &&& 1431655765)).toUInt32 >>> ((2 : Int32).toUInt32 &&& Int32.toUInt32 31)).toInt32) &&& 858993459)).toUInt32 >>> ((4 : Int32).toUInt32 &&& Int32.toUInt32 31)).toInt32)) &&& 252645135) + (((((((x0 - (((x0.toUInt32 >>> ((1 : Int32).toUInt32 &&& Int32.toUInt32 31)).toInt32) &&& 1431655765)) &&& 858993459) + ((((x0 - (((x0.toUInt32 >>> ((1 : Int32).toUInt32 &&& Int32.toUInt32 31)).toInt32) &&& 1431655765)).toUInt32 >>> ((2 : Int32).toUInt32 &&& Int32.toUInt32 31)).toInt32) &&& 858993459)) + (((((x0 - (((x0.toUInt32 >>> ((1 : Int32).toUInt32 &&& Int32.toUInt32 31)).toInt32) &&& 1431655765)) &&& 858993459) + ((((x0 - (((x0.toUInt32 >>> ((1 : Int32).toUInt32 &&& Int32.toUInt32 31)).toInt32) &&& 1431655765)).toUInt32 >>> ((2 : Int32).toUInt32 &&& Int32.toUInt32 31)).toInt32) &&& 858993459)).toUInt32 >>> ((4 : Int32).toUInt32 &&& Int32.toUInt32 31)).toInt32)) &&& 252645135).toUInt32 >>> ((8 : Int32).toUInt32 &&& Int32.toUInt32 31)).toInt32)) + ((((((((x0 - (((x0.toUInt32 >>> ((1 : Int32).toUInt32 &&& Int32.toUInt32 31)).toInt32) &&& 1431655765)) &&& 858993459) + ((((x0 - (((x0.toUInt32 >>> ((1 : Int32).toUInt32 &&& Int32.toUInt32 31)).toInt32) &&& 1431655765)).toUInt32 >>> ((2 : Int32).toUInt32 &&& Int32.toUInt32 31)).toInt32) &&& 858993459)) + (((((x0 - (((x0.toUInt32 >>> ((1 : Int32).toUInt32 &&& Int32.toUInt32 31)).toInt32) &&& 1431655765)) &&& 858993459) + ((((x0 - (((x0.toUInt32 >>> ((1 : Int32).toUInt32 &&& Int32.toUInt32 31)).toInt32) &&& 1431655765)).toUInt32 >>> ((2 : Int32).toUInt32 &&& Int32.toUInt32 31)).toInt32) &&& 858993459)).toUInt32 >>> ((4 : Int32).toUInt32 &&& Int32.toUInt32 31)).toInt32)) &&& 252645135) + (((((((x0 - (((x0.toUInt32 >>> ((1 : Int32).toUInt32 &&& Int32.toUInt32 31)).toInt32) &&& 1431655765)) &&& 858993459) + ((((x0 - (((x0.toUInt32 >>> ((1 : Int32).toUInt32 &&& Int32.toUInt32 31)).toInt32) &&& 1431655765)).toUInt32 >>> ((2 : Int32).toUInt32 &&& Int32.toUInt32 31)).toInt32) &&& 858993459)) + (((((x0 - (((x0.toUInt32 >>> ((1 : Int32).toUInt32 &&& Int32.toUInt32 31)).toInt32) &&& 1431655765)) &&& 858993459) + ((((x0 - (((x0.toUInt32 >>> ((1 : Int32).toUInt32 &&& Int32.toUInt32 31)).toInt32) &&& 1431655765)).toUInt32 >>> ((2 : Int32).toUInt32 &&& Int32.toUInt32 31)).toInt32) &&& 858993459)).toUInt32 >>> ((4 : Int32).toUInt32 &&& Int32.toUInt32 31)).toInt32)) &&& 252645135).toUInt32 >>> ((8 : Int32).toUInt32 &&& Int32.toUInt32 31)).toInt32)).toUInt32 >>> ((16 : Int32).toUInt32 &&& Int32.toUInt32 31)).toInt32)) &&& 63))), M)
set_option maxRecDepth 100000 in
set_option maxHeartbeats 4000000 in
theorem tI_bitCount_0 {n : Nat} (F : FX p s m meth c G R M0 d "java/lang/Integer" bI_bitCount 1 (some .int)) (hC : CBs l G d C) : ∀ (x0 : Int32) (M : Mem) (H : Heap) (locs : List Loc) (cells slots : Nat) (ls : Array Slot), fI_bitCount_0 n d C x0 M = some (r, M') → RL G M0 M H locs cells slots → lv_has ls 1 [(0, .int x0)] → W p l e R s m args below meth c H locs cells slots (CQ G below s M0 r M') (F0 m 0 ls []) := by
  obtain ⟨hx, hb, hml, hown, hrt, hlk, hex, hK, hRm⟩ := id F
  intro x0 M H locs cells slots ls h hR hl
  unfold fI_bitCount_0 at h
  refine lv_iload_n hx hb dI_bitCount_0 rfl (lv_at hl 0 rfl) ?_
  refine lv_iload_n hx hb dI_bitCount_1 rfl (lv_at hl 0 rfl) ?_
  refine lv_iconst (v := 1) hx hb dI_bitCount_2 (by decide) ?_
  refine lv_iushr hx hb dI_bitCount_3 rfl ?_
  refine lv_ldcw (v := 1431655765) hx hb hown (hK.w kq_I_265 rfl args) dI_bitCount_4 ?_
  refine lv_iand hx hb dI_bitCount_7 ?_
  refine lv_isub hx hb dI_bitCount_8 ?_
  refine lv_istore_n (lv' := [(0, .int (x0 - (((x0.toUInt32 >>> ((1 : Int32).toUInt32 &&& Int32.toUInt32 31)).toInt32) &&& 1431655765)))]) hx hb dI_bitCount_9 rfl hl (by decide) rfl (fun ls hl => ?_)
  refine lv_iload_n hx hb dI_bitCount_10 rfl (lv_at hl 0 rfl) ?_
  refine lv_ldcw (v := 858993459) hx hb hown (hK.w kq_I_266 rfl args) dI_bitCount_11 ?_
  refine lv_iand hx hb dI_bitCount_14 ?_
  refine lv_iload_n hx hb dI_bitCount_15 rfl (lv_at hl 0 rfl) ?_
  refine lv_iconst (v := 2) hx hb dI_bitCount_16 (by decide) ?_
  refine lv_iushr hx hb dI_bitCount_17 rfl ?_
  refine lv_ldcw (v := 858993459) hx hb hown (hK.w kq_I_266 rfl args) dI_bitCount_18 ?_
  refine lv_iand hx hb dI_bitCount_21 ?_
  refine lv_iadd hx hb dI_bitCount_22 ?_
  refine lv_istore_n (lv' := [(0, .int (((x0 - (((x0.toUInt32 >>> ((1 : Int32).toUInt32 &&& Int32.toUInt32 31)).toInt32) &&& 1431655765)) &&& 858993459) + ((((x0 - (((x0.toUInt32 >>> ((1 : Int32).toUInt32 &&& Int32.toUInt32 31)).toInt32) &&& 1431655765)).toUInt32 >>> ((2 : Int32).toUInt32 &&& Int32.toUInt32 31)).toInt32) &&& 858993459)))]) hx hb dI_bitCount_23 rfl hl (by decide) rfl (fun ls hl => ?_)
  refine lv_iload_n hx hb dI_bitCount_24 rfl (lv_at hl 0 rfl) ?_
  refine lv_iload_n hx hb dI_bitCount_25 rfl (lv_at hl 0 rfl) ?_
  refine lv_iconst (v := 4) hx hb dI_bitCount_26 (by decide) ?_
  refine lv_iushr hx hb dI_bitCount_27 rfl ?_
  refine lv_iadd hx hb dI_bitCount_28 ?_
  refine lv_ldcw (v := 252645135) hx hb hown (hK.w kq_I_267 rfl args) dI_bitCount_29 ?_
  refine lv_iand hx hb dI_bitCount_32 ?_
  refine lv_istore_n (lv' := [(0, .int (((((x0 - (((x0.toUInt32 >>> ((1 : Int32).toUInt32 &&& Int32.toUInt32 31)).toInt32) &&& 1431655765)) &&& 858993459) + ((((x0 - (((x0.toUInt32 >>> ((1 : Int32).toUInt32 &&& Int32.toUInt32 31)).toInt32) &&& 1431655765)).toUInt32 >>> ((2 : Int32).toUInt32 &&& Int32.toUInt32 31)).toInt32) &&& 858993459)) + (((((x0 - (((x0.toUInt32 >>> ((1 : Int32).toUInt32 &&& Int32.toUInt32 31)).toInt32) &&& 1431655765)) &&& 858993459) + ((((x0 - (((x0.toUInt32 >>> ((1 : Int32).toUInt32 &&& Int32.toUInt32 31)).toInt32) &&& 1431655765)).toUInt32 >>> ((2 : Int32).toUInt32 &&& Int32.toUInt32 31)).toInt32) &&& 858993459)).toUInt32 >>> ((4 : Int32).toUInt32 &&& Int32.toUInt32 31)).toInt32)) &&& 252645135))]) hx hb dI_bitCount_33 rfl hl (by decide) rfl (fun ls hl => ?_)
  refine lv_iload_n hx hb dI_bitCount_34 rfl (lv_at hl 0 rfl) ?_
  refine lv_iload_n hx hb dI_bitCount_35 rfl (lv_at hl 0 rfl) ?_
  refine lv_bipush (v := 8) hx hb dI_bitCount_36 (by decide) ?_
  refine lv_iushr hx hb dI_bitCount_38 rfl ?_
  refine lv_iadd hx hb dI_bitCount_39 ?_
  refine lv_istore_n (lv' := [(0, .int ((((((x0 - (((x0.toUInt32 >>> ((1 : Int32).toUInt32 &&& Int32.toUInt32 31)).toInt32) &&& 1431655765)) &&& 858993459) + ((((x0 - (((x0.toUInt32 >>> ((1 : Int32).toUInt32 &&& Int32.toUInt32 31)).toInt32) &&& 1431655765)).toUInt32 >>> ((2 : Int32).toUInt32 &&& Int32.toUInt32 31)).toInt32) &&& 858993459)) + (((((x0 - (((x0.toUInt32 >>> ((1 : Int32).toUInt32 &&& Int32.toUInt32 31)).toInt32) &&& 1431655765)) &&& 858993459) + ((((x0 - (((x0.toUInt32 >>> ((1 : Int32).toUInt32 &&& Int32.toUInt32 31)).toInt32) &&& 1431655765)).toUInt32 >>> ((2 : Int32).toUInt32 &&& Int32.toUInt32 31)).toInt32) &&& 858993459)).toUInt32 >>> ((4 : Int32).toUInt32 &&& Int32.toUInt32 31)).toInt32)) &&& 252645135) + (((((((x0 - (((x0.toUInt32 >>> ((1 : Int32).toUInt32 &&& Int32.toUInt32 31)).toInt32) &&& 1431655765)) &&& 858993459) + ((((x0 - (((x0.toUInt32 >>> ((1 : Int32).toUInt32 &&& Int32.toUInt32 31)).toInt32) &&& 1431655765)).toUInt32 >>> ((2 : Int32).toUInt32 &&& Int32.toUInt32 31)).toInt32) &&& 858993459)) + (((((x0 - (((x0.toUInt32 >>> ((1 : Int32).toUInt32 &&& Int32.toUInt32 31)).toInt32) &&& 1431655765)) &&& 858993459) + ((((x0 - (((x0.toUInt32 >>> ((1 : Int32).toUInt32 &&& Int32.toUInt32 31)).toInt32) &&& 1431655765)).toUInt32 >>> ((2 : Int32).toUInt32 &&& Int32.toUInt32 31)).toInt32) &&& 858993459)).toUInt32 >>> ((4 : Int32).toUInt32 &&& Int32.toUInt32 31)).toInt32)) &&& 252645135).toUInt32 >>> ((8 : Int32).toUInt32 &&& Int32.toUInt32 31)).toInt32)))]) hx hb dI_bitCount_40 rfl hl (by decide) rfl (fun ls hl => ?_)
  refine lv_iload_n hx hb dI_bitCount_41 rfl (lv_at hl 0 rfl) ?_
  refine lv_iload_n hx hb dI_bitCount_42 rfl (lv_at hl 0 rfl) ?_
  refine lv_bipush (v := 16) hx hb dI_bitCount_43 (by decide) ?_
  refine lv_iushr hx hb dI_bitCount_45 rfl ?_
  refine lv_iadd hx hb dI_bitCount_46 ?_
  refine lv_istore_n (lv' := [(0, .int (((((((x0 - (((x0.toUInt32 >>> ((1 : Int32).toUInt32 &&& Int32.toUInt32 31)).toInt32) &&& 1431655765)) &&& 858993459) + ((((x0 - (((x0.toUInt32 >>> ((1 : Int32).toUInt32 &&& Int32.toUInt32 31)).toInt32) &&& 1431655765)).toUInt32 >>> ((2 : Int32).toUInt32 &&& Int32.toUInt32 31)).toInt32) &&& 858993459)) + (((((x0 - (((x0.toUInt32 >>> ((1 : Int32).toUInt32 &&& Int32.toUInt32 31)).toInt32) &&& 1431655765)) &&& 858993459) + ((((x0 - (((x0.toUInt32 >>> ((1 : Int32).toUInt32 &&& Int32.toUInt32 31)).toInt32) &&& 1431655765)).toUInt32 >>> ((2 : Int32).toUInt32 &&& Int32.toUInt32 31)).toInt32) &&& 858993459)).toUInt32 >>> ((4 : Int32).toUInt32 &&& Int32.toUInt32 31)).toInt32)) &&& 252645135) + (((((((x0 - (((x0.toUInt32 >>> ((1 : Int32).toUInt32 &&& Int32.toUInt32 31)).toInt32) &&& 1431655765)) &&& 858993459) + ((((x0 - (((x0.toUInt32 >>> ((1 : Int32).toUInt32 &&& Int32.toUInt32 31)).toInt32) &&& 1431655765)).toUInt32 >>> ((2 : Int32).toUInt32 &&& Int32.toUInt32 31)).toInt32) &&& 858993459)) + (((((x0 - (((x0.toUInt32 >>> ((1 : Int32).toUInt32 &&& Int32.toUInt32 31)).toInt32) &&& 1431655765)) &&& 858993459) + ((((x0 - (((x0.toUInt32 >>> ((1 : Int32).toUInt32 &&& Int32.toUInt32 31)).toInt32) &&& 1431655765)).toUInt32 >>> ((2 : Int32).toUInt32 &&& Int32.toUInt32 31)).toInt32) &&& 858993459)).toUInt32 >>> ((4 : Int32).toUInt32 &&& Int32.toUInt32 31)).toInt32)) &&& 252645135).toUInt32 >>> ((8 : Int32).toUInt32 &&& Int32.toUInt32 31)).toInt32)) + ((((((((x0 - (((x0.toUInt32 >>> ((1 : Int32).toUInt32 &&& Int32.toUInt32 31)).toInt32) &&& 1431655765)) &&& 858993459) + ((((x0 - (((x0.toUInt32 >>> ((1 : Int32).toUInt32 &&& Int32.toUInt32 31)).toInt32) &&& 1431655765)).toUInt32 >>> ((2 : Int32).toUInt32 &&& Int32.toUInt32 31)).toInt32) &&& 858993459)) + (((((x0 - (((x0.toUInt32 >>> ((1 : Int32).toUInt32 &&& Int32.toUInt32 31)).toInt32) &&& 1431655765)) &&& 858993459) + ((((x0 - (((x0.toUInt32 >>> ((1 : Int32).toUInt32 &&& Int32.toUInt32 31)).toInt32) &&& 1431655765)).toUInt32 >>> ((2 : Int32).toUInt32 &&& Int32.toUInt32 31)).toInt32) &&& 858993459)).toUInt32 >>> ((4 : Int32).toUInt32 &&& Int32.toUInt32 31)).toInt32)) &&& 252645135) + (((((((x0 - (((x0.toUInt32 >>> ((1 : Int32).toUInt32 &&& Int32.toUInt32 31)).toInt32) &&& 1431655765)) &&& 858993459) + ((((x0 - (((x0.toUInt32 >>> ((1 : Int32).toUInt32 &&& Int32.toUInt32 31)).toInt32) &&& 1431655765)).toUInt32 >>> ((2 : Int32).toUInt32 &&& Int32.toUInt32 31)).toInt32) &&& 858993459)) + (((((x0 - (((x0.toUInt32 >>> ((1 : Int32).toUInt32 &&& Int32.toUInt32 31)).toInt32) &&& 1431655765)) &&& 858993459) + ((((x0 - (((x0.toUInt32 >>> ((1 : Int32).toUInt32 &&& Int32.toUInt32 31)).toInt32) &&& 1431655765)).toUInt32 >>> ((2 : Int32).toUInt32 &&& Int32.toUInt32 31)).toInt32) &&& 858993459)).toUInt32 >>> ((4 : Int32).toUInt32 &&& Int32.toUInt32 31)).toInt32)) &&& 252645135).toUInt32 >>> ((8 : Int32).toUInt32 &&& Int32.toUInt32 31)).toInt32)).toUInt32 >>> ((16 : Int32).toUInt32 &&& Int32.toUInt32 31)).toInt32)))]) hx hb dI_bitCount_47 rfl hl (by decide) rfl (fun ls hl => ?_)
  refine lv_iload_n hx hb dI_bitCount_48 rfl (lv_at hl 0 rfl) ?_
  refine lv_bipush (v := 63) hx hb dI_bitCount_49 (by decide) ?_
  refine lv_iand hx hb dI_bitCount_51 ?_
  cases h
  exact rt_i hx hb hlk hrt (Or.inl rfl) rfl hR dI_bitCount_52
set_option maxRecDepth 100000 in
set_option maxHeartbeats 4000000 in
theorem sI_bitCount {l : Launch} {G : Gx} {n d : Nat} {C : Cx} (hC : CBs l G d C) (x0 : Int32) {M M' : Mem} {r : Option Value ⊕ Nat} (h : fI_bitCount_0 n d C x0 M = some (r, M')) : CB l G (d + 1) yI_bitCount [.int x0] M r M' := by
  intro p e R s m below meth c hx hn hm hc hlk hK hR hcap hS hU hfr hlo hrc hrs
  obtain ⟨hb, hml, hrt, hex, hown⟩ := fx_of hn hm hc (hK.w mfI_bitCount.2.2.1 rfl #[])
  have F : FX p s m meth c G R M d "java/lang/Integer" bI_bitCount 1 (some .int) := ⟨hx, hb, hml, hown, hrt, hlk, hex, hK, hfr, hlo, by rw [← hcap]; exact hrc, hrs⟩
  rw [hml]
  have hl := lv_entry ([.int x0]) (n := 1) (by simp [lg_sl, cat_rf, cat_i, cat_a, cat_l, cat_n])
  rw [lg_entry_eq]
  generalize (lg_sl ([.int x0]) ++ List.replicate (1 - (lg_sl ([.int x0])).length) Slot.unset).toArray = ls at hl ⊢
  have hl : lv_has ls 1 [(0, .int x0)] := by simpa [lv_args, cat_rf, cat_i, cat_a, cat_l, cat_n] using hl
  exact tI_bitCount_0 F hC x0 _ _ _ _ _ _ h (RL.start hR hcap hS hU) (lv_sub hl [0] rfl)
end
