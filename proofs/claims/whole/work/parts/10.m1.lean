theorem dM_init_0 : decode bM_init 0 = .ok (.aload_n 0, 1) := by decide +kernel
theorem dM_init_1 : decode bM_init 1 = .ok (.invokespecial 1, 3) := by decide +kernel
theorem dM_init_4 : decode bM_init 4 = .ok (.aload_n 0, 1) := by decide +kernel
theorem dM_init_5 : decode bM_init 5 = .ok (.bipush 120, 2) := by decide +kernel
theorem dM_init_7 : decode bM_init 7 = .ok (.newarray .char, 2) := by decide +kernel
theorem dM_init_9 : decode bM_init 9 = .ok (.putfield 7, 3) := by decide +kernel
theorem dM_init_12 : decode bM_init 12 = .ok (.aload_n 0, 1) := by decide +kernel
theorem dM_init_13 : decode bM_init 13 = .ok (.sipush 260, 3) := by decide +kernel
theorem dM_init_16 : decode bM_init 16 = .ok (.newarray .int, 2) := by decide +kernel
theorem dM_init_18 : decode bM_init 18 = .ok (.putfield 13, 3) := by decide +kernel
theorem dM_init_21 : decode bM_init 21 = .ok (.aload_n 0, 1) := by decide +kernel
theorem dM_init_22 : decode bM_init 22 = .ok (.sipush 260, 3) := by decide +kernel
theorem dM_init_25 : decode bM_init 25 = .ok (.newarray .int, 2) := by decide +kernel
theorem dM_init_27 : decode bM_init 27 = .ok (.putfield 17, 3) := by decide +kernel
theorem dM_init_30 : decode bM_init 30 = .ok (.aload_n 0, 1) := by decide +kernel
theorem dM_init_31 : decode bM_init 31 = .ok (.iconst 4, 1) := by decide +kernel
theorem dM_init_32 : decode bM_init 32 = .ok (.newarray .boolean, 2) := by decide +kernel
theorem dM_init_34 : decode bM_init 34 = .ok (.putfield 20, 3) := by decide +kernel
theorem dM_init_37 : decode bM_init 37 = .ok (.aload_n 0, 1) := by decide +kernel
theorem dM_init_38 : decode bM_init 38 = .ok (.iconst 4, 1) := by decide +kernel
theorem dM_init_39 : decode bM_init 39 = .ok (.newarray .boolean, 2) := by decide +kernel
theorem dM_init_41 : decode bM_init 41 = .ok (.putfield 24, 3) := by decide +kernel
theorem dM_init_44 : decode bM_init 44 = .ok (.aload_n 0, 1) := by decide +kernel
theorem dM_init_45 : decode bM_init 45 = .ok (.sipush 260, 3) := by decide +kernel
theorem dM_init_48 : decode bM_init 48 = .ok (.newarray .int, 2) := by decide +kernel
theorem dM_init_50 : decode bM_init 50 = .ok (.putfield 27, 3) := by decide +kernel
theorem dM_init_53 : decode bM_init 53 = .ok (.aload_n 0, 1) := by decide +kernel
theorem dM_init_54 : decode bM_init 54 = .ok (.sipush 260, 3) := by decide +kernel
theorem dM_init_57 : decode bM_init 57 = .ok (.newarray .int, 2) := by decide +kernel
theorem dM_init_59 : decode bM_init 59 = .ok (.putfield 30, 3) := by decide +kernel
theorem dM_init_62 : decode bM_init 62 = .ok (.aload_n 0, 1) := by decide +kernel
theorem dM_init_63 : decode bM_init 63 = .ok (.iconst 4, 1) := by decide +kernel
theorem dM_init_64 : decode bM_init 64 = .ok (.newarray .boolean, 2) := by decide +kernel
theorem dM_init_66 : decode bM_init 66 = .ok (.putfield 33, 3) := by decide +kernel
theorem dM_init_69 : decode bM_init 69 = .ok (.aload_n 0, 1) := by decide +kernel
theorem dM_init_70 : decode bM_init 70 = .ok (.iconst 4, 1) := by decide +kernel
theorem dM_init_71 : decode bM_init 71 = .ok (.newarray .boolean, 2) := by decide +kernel
theorem dM_init_73 : decode bM_init 73 = .ok (.putfield 36, 3) := by decide +kernel
theorem dM_init_76 : decode bM_init 76 = .ok (.aload_n 0, 1) := by decide +kernel
theorem dM_init_77 : decode bM_init 77 = .ok (.sipush 140, 3) := by decide +kernel
theorem dM_init_80 : decode bM_init 80 = .ok (.newarray .int, 2) := by decide +kernel
theorem dM_init_82 : decode bM_init 82 = .ok (.putfield 39, 3) := by decide +kernel
theorem dM_init_85 : decode bM_init 85 = .ok (.aload_n 0, 1) := by decide +kernel
theorem dM_init_86 : decode bM_init 86 = .ok (.sipush 140, 3) := by decide +kernel
theorem dM_init_89 : decode bM_init 89 = .ok (.newarray .int, 2) := by decide +kernel
theorem dM_init_91 : decode bM_init 91 = .ok (.putfield 42, 3) := by decide +kernel
theorem dM_init_94 : decode bM_init 94 = .ok (.aload_n 0, 1) := by decide +kernel
theorem dM_init_95 : decode bM_init 95 = .ok (.sipush 140, 3) := by decide +kernel
theorem dM_init_98 : decode bM_init 98 = .ok (.newarray .int, 2) := by decide +kernel
theorem dM_init_100 : decode bM_init 100 = .ok (.putfield 45, 3) := by decide +kernel
theorem dM_init_103 : decode bM_init 103 = .ok (.aload_n 0, 1) := by decide +kernel
theorem dM_init_104 : decode bM_init 104 = .ok (.bipush 6, 2) := by decide +kernel
theorem dM_init_106 : decode bM_init 106 = .ok (.newarray .int, 2) := by decide +kernel
theorem dM_init_108 : decode bM_init 108 = .ok (.putfield 48, 3) := by decide +kernel
theorem dM_init_111 : decode bM_init 111 = .ok (.aload_n 0, 1) := by decide +kernel
theorem dM_init_112 : decode bM_init 112 = .ok (.iconst 4, 1) := by decide +kernel
theorem dM_init_113 : decode bM_init 113 = .ok (.newarray .int, 2) := by decide +kernel
theorem dM_init_115 : decode bM_init 115 = .ok (.putfield 51, 3) := by decide +kernel
theorem dM_init_118 : decode bM_init 118 = .ok (.aload_n 0, 1) := by decide +kernel
theorem dM_init_119 : decode bM_init 119 = .ok (.iconst 4, 1) := by decide +kernel
theorem dM_init_120 : decode bM_init 120 = .ok (.newarray .int, 2) := by decide +kernel
theorem dM_init_122 : decode bM_init 122 = .ok (.putfield 54, 3) := by decide +kernel
theorem dM_init_125 : decode bM_init 125 = .ok (.aload_n 0, 1) := by decide +kernel
theorem dM_init_126 : decode bM_init 126 = .ok (.sipush 260, 3) := by decide +kernel
theorem dM_init_129 : decode bM_init 129 = .ok (.newarray .int, 2) := by decide +kernel
theorem dM_init_131 : decode bM_init 131 = .ok (.putfield 57, 3) := by decide +kernel
theorem dM_init_134 : decode bM_init 134 = .ok (.return_, 1) := by decide +kernel
theorem dM_thrown_0 : decode bM_thrown 0 = .ok (.aload_n 0, 1) := by decide +kernel
theorem dM_thrown_1 : decode bM_thrown 1 = .ok (.getfield 60, 3) := by decide +kernel
theorem dM_thrown_4 : decode bM_thrown 4 = .ok (.ireturn, 1) := by decide +kernel
theorem dM_write_0 : decode bM_write 0 = .ok (.aload_n 0, 1) := by decide +kernel
theorem dM_write_1 : decode bM_write 1 = .ok (.iconst 0, 1) := by decide +kernel
theorem dM_write_2 : decode bM_write 2 = .ok (.putfield 60, 3) := by decide +kernel
theorem dM_write_5 : decode bM_write 5 = .ok (.iconst 0, 1) := by decide +kernel
theorem dM_write_6 : decode bM_write 6 = .ok (.istore_n 3, 1) := by decide +kernel
theorem dM_write_7 : decode bM_write 7 = .ok (.iconst 0, 1) := by decide +kernel
theorem dM_write_8 : decode bM_write 8 = .ok (.istore 4, 2) := by decide +kernel
theorem dM_write_10 : decode bM_write 10 = .ok (.iload 4, 2) := by decide +kernel
theorem dM_write_12 : decode bM_write 12 = .ok (.bipush 8, 2) := by decide +kernel
theorem dM_write_14 : decode bM_write 14 = .ok (.if_icmp .ge 57, 3) := by decide +kernel
theorem dM_write_17 : decode bM_write 17 = .ok (.lload_n 1, 1) := by decide +kernel
theorem dM_write_18 : decode bM_write 18 = .ok (.bipush 8, 2) := by decide +kernel
theorem dM_write_20 : decode bM_write 20 = .ok (.iload 4, 2) := by decide +kernel
theorem dM_write_22 : decode bM_write 22 = .ok (.imul, 1) := by decide +kernel
theorem dM_write_23 : decode bM_write 23 = .ok (.lshr, 1) := by decide +kernel
theorem dM_write_24 : decode bM_write 24 = .ok (.ldc2_w 64, 3) := by decide +kernel
theorem dM_write_27 : decode bM_write 27 = .ok (.land, 1) := by decide +kernel
theorem dM_write_28 : decode bM_write 28 = .ok (.l2i, 1) := by decide +kernel
theorem dM_write_29 : decode bM_write 29 = .ok (.istore 5, 2) := by decide +kernel
theorem dM_write_31 : decode bM_write 31 = .ok (.iload 5, 2) := by decide +kernel
theorem dM_write_33 : decode bM_write 33 = .ok (.ifCond .eq 19, 3) := by decide +kernel
theorem dM_write_36 : decode bM_write 36 = .ok (.iload 5, 2) := by decide +kernel
theorem dM_write_38 : decode bM_write 38 = .ok (.bipush 32, 2) := by decide +kernel
theorem dM_write_40 : decode bM_write 40 = .ok (.if_icmp .lt 10, 3) := by decide +kernel
theorem dM_write_43 : decode bM_write 43 = .ok (.iload 5, 2) := by decide +kernel
theorem dM_write_45 : decode bM_write 45 = .ok (.bipush 126, 2) := by decide +kernel
theorem dM_write_47 : decode bM_write 47 = .ok (.if_icmp .le 5, 3) := by decide +kernel
theorem dM_write_50 : decode bM_write 50 = .ok (.iconst 0, 1) := by decide +kernel
theorem dM_write_51 : decode bM_write 51 = .ok (.ireturn, 1) := by decide +kernel
theorem dM_write_52 : decode bM_write 52 = .ok (.iload_n 3, 1) := by decide +kernel
theorem dM_write_53 : decode bM_write 53 = .ok (.iload 5, 2) := by decide +kernel
theorem dM_write_55 : decode bM_write 55 = .ok (.ifCond .ne 7, 3) := by decide +kernel
theorem dM_write_58 : decode bM_write 58 = .ok (.iconst 0, 1) := by decide +kernel
theorem dM_write_59 : decode bM_write 59 = .ok (.goto 4, 3) := by decide +kernel
theorem dM_write_62 : decode bM_write 62 = .ok (.iconst 1, 1) := by decide +kernel
theorem dM_write_63 : decode bM_write 63 = .ok (.iadd, 1) := by decide +kernel
theorem dM_write_64 : decode bM_write 64 = .ok (.istore_n 3, 1) := by decide +kernel
theorem dM_write_65 : decode bM_write 65 = .ok (.iinc 4 1, 3) := by decide +kernel
theorem dM_write_68 : decode bM_write 68 = .ok (.goto (-58), 3) := by decide +kernel
theorem dM_write_71 : decode bM_write 71 = .ok (.aload_n 0, 1) := by decide +kernel
theorem dM_write_72 : decode bM_write 72 = .ok (.getfield 66, 3) := by decide +kernel
theorem dM_write_75 : decode bM_write 75 = .ok (.iload_n 3, 1) := by decide +kernel
theorem dM_write_76 : decode bM_write 76 = .ok (.iadd, 1) := by decide +kernel
theorem dM_write_77 : decode bM_write 77 = .ok (.bipush 120, 2) := by decide +kernel
theorem dM_write_79 : decode bM_write 79 = .ok (.if_icmp .le 5, 3) := by decide +kernel
theorem dM_write_82 : decode bM_write 82 = .ok (.iconst 0, 1) := by decide +kernel
theorem dM_write_83 : decode bM_write 83 = .ok (.ireturn, 1) := by decide +kernel
theorem dM_write_84 : decode bM_write 84 = .ok (.iconst 0, 1) := by decide +kernel
theorem dM_write_85 : decode bM_write 85 = .ok (.istore 4, 2) := by decide +kernel
theorem dM_write_87 : decode bM_write 87 = .ok (.iload 4, 2) := by decide +kernel
theorem dM_write_89 : decode bM_write 89 = .ok (.bipush 8, 2) := by decide +kernel
theorem dM_write_91 : decode bM_write 91 = .ok (.if_icmp .ge 50, 3) := by decide +kernel
theorem dM_write_94 : decode bM_write 94 = .ok (.lload_n 1, 1) := by decide +kernel
theorem dM_write_95 : decode bM_write 95 = .ok (.bipush 8, 2) := by decide +kernel
theorem dM_write_97 : decode bM_write 97 = .ok (.iload 4, 2) := by decide +kernel
theorem dM_write_99 : decode bM_write 99 = .ok (.imul, 1) := by decide +kernel
theorem dM_write_100 : decode bM_write 100 = .ok (.lshr, 1) := by decide +kernel
theorem dM_write_101 : decode bM_write 101 = .ok (.ldc2_w 64, 3) := by decide +kernel
theorem dM_write_104 : decode bM_write 104 = .ok (.land, 1) := by decide +kernel
theorem dM_write_105 : decode bM_write 105 = .ok (.l2i, 1) := by decide +kernel
theorem dM_write_106 : decode bM_write 106 = .ok (.istore 5, 2) := by decide +kernel
theorem dM_write_108 : decode bM_write 108 = .ok (.iload 5, 2) := by decide +kernel
theorem dM_write_110 : decode bM_write 110 = .ok (.ifCond .eq 25, 3) := by decide +kernel
theorem dM_write_113 : decode bM_write 113 = .ok (.aload_n 0, 1) := by decide +kernel
theorem dM_write_114 : decode bM_write 114 = .ok (.getfield 7, 3) := by decide +kernel
theorem dM_write_117 : decode bM_write 117 = .ok (.aload_n 0, 1) := by decide +kernel
theorem dM_write_118 : decode bM_write 118 = .ok (.getfield 66, 3) := by decide +kernel
theorem dM_write_121 : decode bM_write 121 = .ok (.iload 5, 2) := by decide +kernel
theorem dM_write_123 : decode bM_write 123 = .ok (.i2c, 1) := by decide +kernel
theorem dM_write_124 : decode bM_write 124 = .ok (.castore, 1) := by decide +kernel
theorem dM_write_125 : decode bM_write 125 = .ok (.aload_n 0, 1) := by decide +kernel
theorem dM_write_126 : decode bM_write 126 = .ok (.dup, 1) := by decide +kernel
theorem dM_write_127 : decode bM_write 127 = .ok (.getfield 66, 3) := by decide +kernel
theorem dM_write_130 : decode bM_write 130 = .ok (.iconst 1, 1) := by decide +kernel
theorem dM_write_131 : decode bM_write 131 = .ok (.iadd, 1) := by decide +kernel
theorem dM_write_132 : decode bM_write 132 = .ok (.putfield 66, 3) := by decide +kernel
theorem dM_write_135 : decode bM_write 135 = .ok (.iinc 4 1, 3) := by decide +kernel
theorem dM_write_138 : decode bM_write 138 = .ok (.goto (-51), 3) := by decide +kernel
theorem dM_write_141 : decode bM_write 141 = .ok (.iconst 1, 1) := by decide +kernel
theorem dM_write_142 : decode bM_write 142 = .ok (.ireturn, 1) := by decide +kernel
theorem dM_wipe_0 : decode bM_wipe 0 = .ok (.aload_n 0, 1) := by decide +kernel
theorem dM_wipe_1 : decode bM_wipe 1 = .ok (.iconst 0, 1) := by decide +kernel
theorem dM_wipe_2 : decode bM_wipe 2 = .ok (.putfield 60, 3) := by decide +kernel
theorem dM_wipe_5 : decode bM_wipe 5 = .ok (.aload_n 0, 1) := by decide +kernel
theorem dM_wipe_6 : decode bM_wipe 6 = .ok (.getfield 66, 3) := by decide +kernel
theorem dM_wipe_9 : decode bM_wipe 9 = .ok (.istore_n 1, 1) := by decide +kernel
theorem dM_wipe_10 : decode bM_wipe 10 = .ok (.aload_n 0, 1) := by decide +kernel
theorem dM_wipe_11 : decode bM_wipe 11 = .ok (.iconst 0, 1) := by decide +kernel
theorem dM_wipe_12 : decode bM_wipe 12 = .ok (.putfield 66, 3) := by decide +kernel
theorem dM_wipe_15 : decode bM_wipe 15 = .ok (.iload_n 1, 1) := by decide +kernel
theorem dM_wipe_16 : decode bM_wipe 16 = .ok (.ireturn, 1) := by decide +kernel
theorem dM_length_0 : decode bM_length 0 = .ok (.aload_n 0, 1) := by decide +kernel
theorem dM_length_1 : decode bM_length 1 = .ok (.iconst 0, 1) := by decide +kernel
theorem dM_length_2 : decode bM_length 2 = .ok (.putfield 60, 3) := by decide +kernel
theorem dM_length_5 : decode bM_length 5 = .ok (.aload_n 0, 1) := by decide +kernel
theorem dM_length_6 : decode bM_length 6 = .ok (.getfield 66, 3) := by decide +kernel
theorem dM_length_9 : decode bM_length 9 = .ok (.ireturn, 1) := by decide +kernel
theorem dM_deeper_0 : decode bM_deeper 0 = .ok (.aload_n 0, 1) := by decide +kernel
theorem dM_deeper_1 : decode bM_deeper 1 = .ok (.getfield 75, 3) := by decide +kernel
theorem dM_deeper_4 : decode bM_deeper 4 = .ok (.bipush 12, 2) := by decide +kernel
theorem dM_deeper_6 : decode bM_deeper 6 = .ok (.if_icmp .lt 5, 3) := by decide +kernel
theorem dM_deeper_9 : decode bM_deeper 9 = .ok (.iconst 0, 1) := by decide +kernel
theorem dM_deeper_10 : decode bM_deeper 10 = .ok (.ireturn, 1) := by decide +kernel
theorem dM_deeper_11 : decode bM_deeper 11 = .ok (.aload_n 0, 1) := by decide +kernel
theorem dM_deeper_12 : decode bM_deeper 12 = .ok (.dup, 1) := by decide +kernel
theorem dM_deeper_13 : decode bM_deeper 13 = .ok (.getfield 75, 3) := by decide +kernel
theorem dM_deeper_16 : decode bM_deeper 16 = .ok (.iconst 1, 1) := by decide +kernel
theorem dM_deeper_17 : decode bM_deeper 17 = .ok (.iadd, 1) := by decide +kernel
theorem dM_deeper_18 : decode bM_deeper 18 = .ok (.putfield 75, 3) := by decide +kernel
theorem dM_deeper_21 : decode bM_deeper 21 = .ok (.aload_n 0, 1) := by decide +kernel
theorem dM_deeper_22 : decode bM_deeper 22 = .ok (.iload_n 1, 1) := by decide +kernel
theorem dM_deeper_23 : decode bM_deeper 23 = .ok (.invokevirtual 78, 3) := by decide +kernel
theorem dM_deeper_26 : decode bM_deeper 26 = .ok (.iconst 1, 1) := by decide +kernel
theorem dM_deeper_27 : decode bM_deeper 27 = .ok (.ireturn, 1) := by decide +kernel
theorem dM_push_0 : decode bM_push 0 = .ok (.aload_n 0, 1) := by decide +kernel
theorem dM_push_1 : decode bM_push 1 = .ok (.getfield 39, 3) := by decide +kernel
theorem dM_push_4 : decode bM_push 4 = .ok (.aload_n 0, 1) := by decide +kernel
theorem dM_push_5 : decode bM_push 5 = .ok (.getfield 72, 3) := by decide +kernel
theorem dM_push_8 : decode bM_push 8 = .ok (.iload_n 1, 1) := by decide +kernel
theorem dM_push_9 : decode bM_push 9 = .ok (.iastore, 1) := by decide +kernel
theorem dM_push_10 : decode bM_push 10 = .ok (.aload_n 0, 1) := by decide +kernel
theorem dM_push_11 : decode bM_push 11 = .ok (.dup, 1) := by decide +kernel
theorem dM_push_12 : decode bM_push 12 = .ok (.getfield 72, 3) := by decide +kernel
theorem dM_push_15 : decode bM_push 15 = .ok (.iconst 1, 1) := by decide +kernel
theorem dM_push_16 : decode bM_push 16 = .ok (.iadd, 1) := by decide +kernel
theorem dM_push_17 : decode bM_push 17 = .ok (.putfield 72, 3) := by decide +kernel
theorem dM_push_20 : decode bM_push 20 = .ok (.return_, 1) := by decide +kernel
theorem dM_isDigit_0 : decode bM_isDigit 0 = .ok (.iload_n 0, 1) := by decide +kernel
theorem dM_isDigit_1 : decode bM_isDigit 1 = .ok (.bipush 48, 2) := by decide +kernel
theorem dM_isDigit_3 : decode bM_isDigit 3 = .ok (.if_icmp .lt 13, 3) := by decide +kernel
theorem dM_isDigit_6 : decode bM_isDigit 6 = .ok (.iload_n 0, 1) := by decide +kernel
theorem dM_isDigit_7 : decode bM_isDigit 7 = .ok (.bipush 57, 2) := by decide +kernel
theorem dM_isDigit_9 : decode bM_isDigit 9 = .ok (.if_icmp .gt 7, 3) := by decide +kernel
theorem dM_isDigit_12 : decode bM_isDigit 12 = .ok (.iconst 1, 1) := by decide +kernel
theorem dM_isDigit_13 : decode bM_isDigit 13 = .ok (.goto 4, 3) := by decide +kernel
theorem dM_isDigit_16 : decode bM_isDigit 16 = .ok (.iconst 0, 1) := by decide +kernel
theorem dM_isDigit_17 : decode bM_isDigit 17 = .ok (.ireturn, 1) := by decide +kernel
theorem dM_variableOf_0 : decode bM_variableOf 0 = .ok (.iload_n 0, 1) := by decide +kernel
theorem dM_variableOf_1 : decode bM_variableOf 1 = .ok (.bipush 105, 2) := by decide +kernel
theorem dM_variableOf_3 : decode bM_variableOf 3 = .ok (.if_icmp .lt 16, 3) := by decide +kernel
theorem dM_variableOf_6 : decode bM_variableOf 6 = .ok (.iload_n 0, 1) := by decide +kernel
theorem dM_variableOf_7 : decode bM_variableOf 7 = .ok (.bipush 107, 2) := by decide +kernel
theorem dM_variableOf_9 : decode bM_variableOf 9 = .ok (.if_icmp .gt 10, 3) := by decide +kernel
theorem dM_variableOf_12 : decode bM_variableOf 12 = .ok (.iload_n 0, 1) := by decide +kernel
theorem dM_variableOf_13 : decode bM_variableOf 13 = .ok (.bipush 105, 2) := by decide +kernel
theorem dM_variableOf_15 : decode bM_variableOf 15 = .ok (.isub, 1) := by decide +kernel
theorem dM_variableOf_16 : decode bM_variableOf 16 = .ok (.goto 25, 3) := by decide +kernel
theorem dM_variableOf_19 : decode bM_variableOf 19 = .ok (.iload_n 0, 1) := by decide +kernel
theorem dM_variableOf_20 : decode bM_variableOf 20 = .ok (.bipush 88, 2) := by decide +kernel
theorem dM_variableOf_22 : decode bM_variableOf 22 = .ok (.if_icmp .lt 18, 3) := by decide +kernel
theorem dM_variableOf_25 : decode bM_variableOf 25 = .ok (.iload_n 0, 1) := by decide +kernel
theorem dM_variableOf_26 : decode bM_variableOf 26 = .ok (.bipush 90, 2) := by decide +kernel
theorem dM_variableOf_28 : decode bM_variableOf 28 = .ok (.if_icmp .gt 12, 3) := by decide +kernel
theorem dM_variableOf_31 : decode bM_variableOf 31 = .ok (.iload_n 0, 1) := by decide +kernel
theorem dM_variableOf_32 : decode bM_variableOf 32 = .ok (.bipush 88, 2) := by decide +kernel
theorem dM_variableOf_34 : decode bM_variableOf 34 = .ok (.isub, 1) := by decide +kernel
theorem dM_variableOf_35 : decode bM_variableOf 35 = .ok (.iconst 3, 1) := by decide +kernel
theorem dM_variableOf_36 : decode bM_variableOf 36 = .ok (.iadd, 1) := by decide +kernel
theorem dM_variableOf_37 : decode bM_variableOf 37 = .ok (.goto 4, 3) := by decide +kernel
theorem dM_variableOf_40 : decode bM_variableOf 40 = .ok (.iconst (-1), 1) := by decide +kernel
theorem dM_variableOf_41 : decode bM_variableOf 41 = .ok (.ireturn, 1) := by decide +kernel
theorem dM_emit_0 : decode bM_emit 0 = .ok (.aload_n 0, 1) := by decide +kernel
theorem dM_emit_1 : decode bM_emit 1 = .ok (.getfield 27, 3) := by decide +kernel
theorem dM_emit_4 : decode bM_emit 4 = .ok (.aload_n 0, 1) := by decide +kernel
theorem dM_emit_5 : decode bM_emit 5 = .ok (.getfield 69, 3) := by decide +kernel
theorem dM_emit_8 : decode bM_emit 8 = .ok (.iload_n 1, 1) := by decide +kernel
theorem dM_emit_9 : decode bM_emit 9 = .ok (.iastore, 1) := by decide +kernel
theorem dM_emit_10 : decode bM_emit 10 = .ok (.aload_n 0, 1) := by decide +kernel
theorem dM_emit_11 : decode bM_emit 11 = .ok (.getfield 30, 3) := by decide +kernel
theorem dM_emit_14 : decode bM_emit 14 = .ok (.aload_n 0, 1) := by decide +kernel
theorem dM_emit_15 : decode bM_emit 15 = .ok (.getfield 69, 3) := by decide +kernel
theorem dM_emit_18 : decode bM_emit 18 = .ok (.iload_n 2, 1) := by decide +kernel
theorem dM_emit_19 : decode bM_emit 19 = .ok (.iastore, 1) := by decide +kernel
theorem dM_emit_20 : decode bM_emit 20 = .ok (.aload_n 0, 1) := by decide +kernel
theorem dM_emit_21 : decode bM_emit 21 = .ok (.dup, 1) := by decide +kernel
theorem dM_emit_22 : decode bM_emit 22 = .ok (.getfield 69, 3) := by decide +kernel
theorem dM_emit_25 : decode bM_emit 25 = .ok (.iconst 1, 1) := by decide +kernel
theorem dM_emit_26 : decode bM_emit 26 = .ok (.iadd, 1) := by decide +kernel
theorem dM_emit_27 : decode bM_emit 27 = .ok (.putfield 69, 3) := by decide +kernel
theorem dM_emit_30 : decode bM_emit 30 = .ok (.return_, 1) := by decide +kernel
theorem dM_settle_0 : decode bM_settle 0 = .ok (.aload_n 0, 1) := by decide +kernel
theorem dM_settle_1 : decode bM_settle 1 = .ok (.invokevirtual 82, 3) := by decide +kernel
theorem dM_settle_4 : decode bM_settle 4 = .ok (.iload_n 1, 1) := by decide +kernel
theorem dM_settle_5 : decode bM_settle 5 = .ok (.if_icmp .eq 11, 3) := by decide +kernel
theorem dM_settle_8 : decode bM_settle 8 = .ok (.aload_n 0, 1) := by decide +kernel
theorem dM_settle_9 : decode bM_settle 9 = .ok (.invokevirtual 82, 3) := by decide +kernel
theorem dM_settle_12 : decode bM_settle 12 = .ok (.iload_n 2, 1) := by decide +kernel
theorem dM_settle_13 : decode bM_settle 13 = .ok (.if_icmp .ne 30, 3) := by decide +kernel
theorem dM_settle_16 : decode bM_settle 16 = .ok (.aload_n 0, 1) := by decide +kernel
theorem dM_settle_17 : decode bM_settle 17 = .ok (.dup, 1) := by decide +kernel
theorem dM_settle_18 : decode bM_settle 18 = .ok (.getfield 72, 3) := by decide +kernel
theorem dM_settle_21 : decode bM_settle 21 = .ok (.iconst 1, 1) := by decide +kernel
theorem dM_settle_22 : decode bM_settle 22 = .ok (.isub, 1) := by decide +kernel
theorem dM_settle_23 : decode bM_settle 23 = .ok (.putfield 72, 3) := by decide +kernel
theorem dM_settle_26 : decode bM_settle 26 = .ok (.aload_n 0, 1) := by decide +kernel
theorem dM_settle_27 : decode bM_settle 27 = .ok (.aload_n 0, 1) := by decide +kernel
theorem dM_settle_28 : decode bM_settle 28 = .ok (.getfield 39, 3) := by decide +kernel
theorem dM_settle_31 : decode bM_settle 31 = .ok (.aload_n 0, 1) := by decide +kernel
theorem dM_settle_32 : decode bM_settle 32 = .ok (.getfield 72, 3) := by decide +kernel
theorem dM_settle_35 : decode bM_settle 35 = .ok (.iaload, 1) := by decide +kernel
theorem dM_settle_36 : decode bM_settle 36 = .ok (.iconst 0, 1) := by decide +kernel
theorem dM_settle_37 : decode bM_settle 37 = .ok (.invokevirtual 86, 3) := by decide +kernel
theorem dM_settle_40 : decode bM_settle 40 = .ok (.goto (-40), 3) := by decide +kernel
theorem dM_settle_43 : decode bM_settle 43 = .ok (.return_, 1) := by decide +kernel
theorem dM_upper_0 : decode bM_upper 0 = .ok (.aload_n 0, 1) := by decide +kernel
theorem dM_upper_1 : decode bM_upper 1 = .ok (.getfield 72, 3) := by decide +kernel
theorem dM_upper_4 : decode bM_upper 4 = .ok (.ifCond .ne 7, 3) := by decide +kernel
theorem dM_upper_7 : decode bM_upper 7 = .ok (.iconst 0, 1) := by decide +kernel
theorem dM_upper_8 : decode bM_upper 8 = .ok (.goto 14, 3) := by decide +kernel
theorem dM_upper_11 : decode bM_upper 11 = .ok (.aload_n 0, 1) := by decide +kernel
theorem dM_upper_12 : decode bM_upper 12 = .ok (.getfield 39, 3) := by decide +kernel
theorem dM_upper_15 : decode bM_upper 15 = .ok (.aload_n 0, 1) := by decide +kernel
theorem dM_upper_16 : decode bM_upper 16 = .ok (.getfield 72, 3) := by decide +kernel
theorem dM_upper_19 : decode bM_upper 19 = .ok (.iconst 1, 1) := by decide +kernel
theorem dM_upper_20 : decode bM_upper 20 = .ok (.isub, 1) := by decide +kernel
theorem dM_upper_21 : decode bM_upper 21 = .ok (.iaload, 1) := by decide +kernel
theorem dM_upper_22 : decode bM_upper 22 = .ok (.ireturn, 1) := by decide +kernel
theorem dM_close_0 : decode bM_close 0 = .ok (.aload_n 0, 1) := by decide +kernel
theorem dM_close_1 : decode bM_close 1 = .ok (.dup, 1) := by decide +kernel
theorem dM_close_2 : decode bM_close 2 = .ok (.getfield 72, 3) := by decide +kernel
theorem dM_close_5 : decode bM_close 5 = .ok (.iconst 1, 1) := by decide +kernel
theorem dM_close_6 : decode bM_close 6 = .ok (.isub, 1) := by decide +kernel
theorem dM_close_7 : decode bM_close 7 = .ok (.putfield 72, 3) := by decide +kernel
theorem dM_close_10 : decode bM_close 10 = .ok (.aload_n 0, 1) := by decide +kernel
theorem dM_close_11 : decode bM_close 11 = .ok (.dup, 1) := by decide +kernel
theorem dM_close_12 : decode bM_close 12 = .ok (.getfield 75, 3) := by decide +kernel
theorem dM_close_15 : decode bM_close 15 = .ok (.iconst 1, 1) := by decide +kernel
theorem dM_close_16 : decode bM_close 16 = .ok (.isub, 1) := by decide +kernel
theorem dM_close_17 : decode bM_close 17 = .ok (.putfield 75, 3) := by decide +kernel
theorem dM_close_20 : decode bM_close 20 = .ok (.return_, 1) := by decide +kernel
section
variable {p : Program} {l : Launch} {e : Env} {R : Room} {s : State} {m : MethodId} {args : Array Value} {below : List Frame} {meth : Method} {c : Code} {G : Gx} {M0 M' : Mem} {r : Option Value ⊕ Nat} {d : Nat} {C : Cx}

def fM_init_0 (n d : Nat) (C : Cx) (a0 : Nat) (M : Mem) : Rz := if ¬ (120 : Int32) < 0 then (if (120 : Int32).toNatClampNeg ≤ 1000 then (if mS M + 1 ≤ mC M 0 then (if mU M + (120 : Int32).toNatClampNeg ≤ SLm then (rzM (newC M 22 ((120 : Int32).toNatClampNeg) ((120 : Int32).toNatClampNeg)) fun M5 => (if mK M5 a0 = 5 then (rzM (setP M5 a0 2 (some (mS M))) fun M9 => (if ¬ (260 : Int32) < 0 then (if (260 : Int32).toNatClampNeg ≤ 1000 then (if mS M9 + 1 ≤ mC M9 0 then (if mU M9 + (260 : Int32).toNatClampNeg ≤ SLm then (rzM (newC M9 21 ((260 : Int32).toNatClampNeg) ((260 : Int32).toNatClampNeg)) fun M17 => (rzM (setP M17 a0 6 (some (mS M9))) fun M22 => (if ¬ (260 : Int32) < 0 then (if (260 : Int32).toNatClampNeg ≤ 1000 then (if mS M22 + 1 ≤ mC M22 0 then (if mU M22 + (260 : Int32).toNatClampNeg ≤ SLm then (rzM (newC M22 21 ((260 : Int32).toNatClampNeg) ((260 : Int32).toNatClampNeg)) fun M31 => (rzM (setP M31 a0 7 (some (mS M22))) fun M37 => (if ¬ (4 : Int32) < 0 then (if (4 : Int32).toNatClampNeg ≤ 1000 then (if mS M37 + 1 ≤ mC M37 0 then (if mU M37 + (4 : Int32).toNatClampNeg ≤ SLm then (rzM (newC M37 23 ((4 : Int32).toNatClampNeg) ((4 : Int32).toNatClampNeg)) fun M47 => (rzM (setP M47 a0 8 (some (mS M37))) fun M54 => (if ¬ (4 : Int32) < 0 then (if (4 : Int32).toNatClampNeg ≤ 1000 then (if mS M54 + 1 ≤ mC M54 0 then (if mU M54 + (4 : Int32).toNatClampNeg ≤ SLm then (rzM (newC M54 23 ((4 : Int32).toNatClampNeg) ((4 : Int32).toNatClampNeg)) fun M65 => (rzM (setP M65 a0 9 (some (mS M54))) fun M73 => (if ¬ (260 : Int32) < 0 then (if (260 : Int32).toNatClampNeg ≤ 1000 then (if mS M73 + 1 ≤ mC M73 0 then (if mU M73 + (260 : Int32).toNatClampNeg ≤ SLm then (rzM (newC M73 21 ((260 : Int32).toNatClampNeg) ((260 : Int32).toNatClampNeg)) fun M85 => (rzM (setP M85 a0 14 (some (mS M73))) fun M94 => (if ¬ (260 : Int32) < 0 then (if (260 : Int32).toNatClampNeg ≤ 1000 then (if mS M94 + 1 ≤ mC M94 0 then (if mU M94 + (260 : Int32).toNatClampNeg ≤ SLm then (rzM (newC M94 21 ((260 : Int32).toNatClampNeg) ((260 : Int32).toNatClampNeg)) fun M107 => (rzM (setP M107 a0 15 (some (mS M94))) fun M117 => (if ¬ (4 : Int32) < 0 then (if (4 : Int32).toNatClampNeg ≤ 1000 then (if mS M117 + 1 ≤ mC M117 0 then (if mU M117 + (4 : Int32).toNatClampNeg ≤ SLm then (rzM (newC M117 23 ((4 : Int32).toNatClampNeg) ((4 : Int32).toNatClampNeg)) fun M131 => (rzM (setP M131 a0 16 (some (mS M117))) fun M142 => (if ¬ (4 : Int32) < 0 then (if (4 : Int32).toNatClampNeg ≤ 1000 then (if mS M142 + 1 ≤ mC M142 0 then (if mU M142 + (4 : Int32).toNatClampNeg ≤ SLm then (rzM (newC M142 23 ((4 : Int32).toNatClampNeg) ((4 : Int32).toNatClampNeg)) fun M157 => (rzM (setP M157 a0 17 (some (mS M142))) fun M169 => (if ¬ (140 : Int32) < 0 then (if (140 : Int32).toNatClampNeg ≤ 1000 then (if mS M169 + 1 ≤ mC M169 0 then (if mU M169 + (140 : Int32).toNatClampNeg ≤ SLm then (rzM (newC M169 21 ((140 : Int32).toNatClampNeg) ((140 : Int32).toNatClampNeg)) fun M185 => (rzM (setP M185 a0 20 (some (mS M169))) fun M198 => (if ¬ (140 : Int32) < 0 then (if (140 : Int32).toNatClampNeg ≤ 1000 then (if mS M198 + 1 ≤ mC M198 0 then (if mU M198 + (140 : Int32).toNatClampNeg ≤ SLm then (rzM (newC M198 21 ((140 : Int32).toNatClampNeg) ((140 : Int32).toNatClampNeg)) fun M215 => (rzM (setP M215 a0 21 (some (mS M198))) fun M229 => (if ¬ (140 : Int32) < 0 then (if (140 : Int32).toNatClampNeg ≤ 1000 then (if mS M229 + 1 ≤ mC M229 0 then (if mU M229 + (140 : Int32).toNatClampNeg ≤ SLm then (rzM (newC M229 21 ((140 : Int32).toNatClampNeg) ((140 : Int32).toNatClampNeg)) fun M247 => (rzM (setP M247 a0 22 (some (mS M229))) fun M262 => (if ¬ (6 : Int32) < 0 then (if (6 : Int32).toNatClampNeg ≤ 1000 then (if mS M262 + 1 ≤ mC M262 0 then (if mU M262 + (6 : Int32).toNatClampNeg ≤ SLm then (rzM (newC M262 21 ((6 : Int32).toNatClampNeg) ((6 : Int32).toNatClampNeg)) fun M281 => (rzM (setP M281 a0 23 (some (mS M262))) fun M297 => (if ¬ (4 : Int32) < 0 then (if (4 : Int32).toNatClampNeg ≤ 1000 then (if mS M297 + 1 ≤ mC M297 0 then (if mU M297 + (4 : Int32).toNatClampNeg ≤ SLm then (rzM (newC M297 21 ((4 : Int32).toNatClampNeg) ((4 : Int32).toNatClampNeg)) fun M317 => (rzM (setP M317 a0 36 (some (mS M297))) fun M334 => (if ¬ (4 : Int32) < 0 then (if (4 : Int32).toNatClampNeg ≤ 1000 then (if mS M334 + 1 ≤ mC M334 0 then (if mU M334 + (4 : Int32).toNatClampNeg ≤ SLm then (rzM (newC M334 21 ((4 : Int32).toNatClampNeg) ((4 : Int32).toNatClampNeg)) fun M355 => (rzM (setP M355 a0 37 (some (mS M334))) fun M373 => (if ¬ (260 : Int32) < 0 then (if (260 : Int32).toNatClampNeg ≤ 1000 then (if mS M373 + 1 ≤ mC M373 0 then (if mU M373 + (260 : Int32).toNatClampNeg ≤ SLm then (rzM (newC M373 21 ((260 : Int32).toNatClampNeg) ((260 : Int32).toNatClampNeg)) fun M395 => (rzM (setP M395 a0 39 (some (mS M373))) fun M414 => (some (.inl none, M414)))) else none) else none) else none) else none))) else none) else none) else none) else none))) else none) else none) else none) else none))) else none) else none) else none) else none))) else none) else none) else none) else none))) else none) else none) else none) else none))) else none) else none) else none) else none))) else none) else none) else none) else none))) else none) else none) else none) else none))) else none) else none) else none) else none))) else none) else none) else none) else none))) else none) else none) else none) else none))) else none) else none) else none) else none))) else none) else none) else none) else none))) else none) else none) else none) else none)) else none)) else none) else none) else none) else none
set_option maxRecDepth 100000 in
set_option maxHeartbeats 4000000 in
theorem tM_init_0 {n : Nat} (F : FX p s m meth c G R M0 d "HeadCountModel" bM_init 1 none) (hin : meth.name = "<init>") (hC : CBs l G d C) : ∀ (a0 : Nat) (M : Mem) (H : Heap) (locs : List Loc) (cells slots : Nat) (ls : Array Slot), fM_init_0 n d C a0 M = some (r, M') → RL G M0 M H locs cells slots → lv_has ls 1 [(0, .ref a0)] → W p l e R s m args below meth c H locs cells slots (CQ G below s M0 r M') (F0 m 0 ls []) := by
  obtain ⟨hx, hb, hml, hown, hrt, hlk, hex, hK, hRm⟩ := id F
  intro a0 M H locs cells slots ls h hR hl
  unfold fM_init_0 at h
  refine lv_aload_n hx hb dM_init_0 rfl (lv_at hl 0 rfl) ?_
  refine W.objInit hx hb hown (hK.w kl_M_1 rfl args) (hK.w oi1 rfl args) (hK.w oi2 rfl args) rfl (hl.1.trans hml.symm) rfl dM_init_1 (Nat.le_trans (Nat.le_add_left 1 d) hRm.1) (by have := hRm.2.1; simp [cat_rf, Value.category]; omega) ?_
  refine lv_aload_n hx hb dM_init_4 rfl (lv_at hl 0 rfl) ?_
  refine lv_bipush (v := 120) hx hb dM_init_5 (by decide) ?_
  obtain ⟨c1, h⟩ := rz_chk h
  obtain ⟨c2, h⟩ := rz_chk h
  obtain ⟨c3, h⟩ := rz_chk h
  obtain ⟨c4, h⟩ := rz_chk h
  obtain ⟨M5, q6, h⟩ := rz_m h
  refine rg_newa (kd := 22) hx hb hK hR hRm rfl (by decide) ka_char c1 c2 c3 c4 dM_init_7 (fun H hR => ?_)
  rw [← q6] at hR
  have c7 : mK M5 (mS M) = 22 := by rw [q6, mK_newC, va_up_self]
  obtain ⟨c8, h⟩ := rz_chk h
  obtain ⟨M9, q10, h⟩ := rz_m h
  refine rg_putF (r := some (mS M)) hx hb hown hK hR hk_M 2 (by decide) kf_M_7 rfl hin rfl rfl (ty := .array .char) (by decide +kernel) (Or.inr ⟨_, rfl⟩) c8 dM_init_9 (fun H locs hR => ?_)
  rw [← q10] at hR
  have c11 : mK M9 (mS M) = 22 := by rw [q10]; exact c7
  have c12 : mK M9 a0 = 5 := by rw [q10]; exact c8
  refine lv_aload_n hx hb dM_init_12 rfl (lv_at hl 0 rfl) ?_
  refine lv_sipush (v := 260) hx hb dM_init_13 (by decide) ?_
  obtain ⟨c13, h⟩ := rz_chk h
  obtain ⟨c14, h⟩ := rz_chk h
  obtain ⟨c15, h⟩ := rz_chk h
  obtain ⟨c16, h⟩ := rz_chk h
  obtain ⟨M17, q18, h⟩ := rz_m h
  refine rg_newa (kd := 21) hx hb hK hR hRm rfl (by decide) ka_int c13 c14 c15 c16 dM_init_16 (fun H hR => ?_)
  rw [← q18] at hR
  have c19 : mK M17 (mS M) = 22 := by rw [q18]; exact c11
  have c20 : mK M17 a0 = 5 := by rw [q18]; exact c12
  have c21 : mK M17 (mS M9) = 21 := by rw [q18, mK_newC, va_up_self]
  obtain ⟨M22, q23, h⟩ := rz_m h
  refine rg_putF (r := some (mS M9)) hx hb hown hK hR hk_M 6 (by decide) kf_M_13 rfl hin rfl rfl (ty := .array .int) (by decide +kernel) (Or.inr ⟨_, rfl⟩) c20 dM_init_18 (fun H locs hR => ?_)
  rw [← q23] at hR
  have c24 : mK M22 (mS M) = 22 := by rw [q23]; exact c19
  have c25 : mK M22 a0 = 5 := by rw [q23]; exact c20
  have c26 : mK M22 (mS M9) = 21 := by rw [q23]; exact c21
  refine lv_aload_n hx hb dM_init_21 rfl (lv_at hl 0 rfl) ?_
  refine lv_sipush (v := 260) hx hb dM_init_22 (by decide) ?_
  obtain ⟨c27, h⟩ := rz_chk h
  obtain ⟨c28, h⟩ := rz_chk h
  obtain ⟨c29, h⟩ := rz_chk h
  obtain ⟨c30, h⟩ := rz_chk h
  obtain ⟨M31, q32, h⟩ := rz_m h
  refine rg_newa (kd := 21) hx hb hK hR hRm rfl (by decide) ka_int c27 c28 c29 c30 dM_init_25 (fun H hR => ?_)
  rw [← q32] at hR
  have c33 : mK M31 (mS M) = 22 := by rw [q32]; exact c24
  have c34 : mK M31 a0 = 5 := by rw [q32]; exact c25
  have c35 : mK M31 (mS M9) = 21 := by rw [q32]; exact c26
  have c36 : mK M31 (mS M22) = 21 := by rw [q32, mK_newC, va_up_self]
  obtain ⟨M37, q38, h⟩ := rz_m h
  refine rg_putF (r := some (mS M22)) hx hb hown hK hR hk_M 7 (by decide) kf_M_17 rfl hin rfl rfl (ty := .array .int) (by decide +kernel) (Or.inr ⟨_, rfl⟩) c34 dM_init_27 (fun H locs hR => ?_)
  rw [← q38] at hR
  have c39 : mK M37 (mS M) = 22 := by rw [q38]; exact c33
  have c40 : mK M37 a0 = 5 := by rw [q38]; exact c34
  have c41 : mK M37 (mS M9) = 21 := by rw [q38]; exact c35
  have c42 : mK M37 (mS M22) = 21 := by rw [q38]; exact c36
  refine lv_aload_n hx hb dM_init_30 rfl (lv_at hl 0 rfl) ?_
  refine lv_iconst (v := 4) hx hb dM_init_31 (by decide) ?_
  obtain ⟨c43, h⟩ := rz_chk h
  obtain ⟨c44, h⟩ := rz_chk h
  obtain ⟨c45, h⟩ := rz_chk h
  obtain ⟨c46, h⟩ := rz_chk h
  obtain ⟨M47, q48, h⟩ := rz_m h
  refine rg_newa (kd := 23) hx hb hK hR hRm rfl (by decide) ka_boolean c43 c44 c45 c46 dM_init_32 (fun H hR => ?_)
  rw [← q48] at hR
  have c49 : mK M47 (mS M) = 22 := by rw [q48]; exact c39
  have c50 : mK M47 a0 = 5 := by rw [q48]; exact c40
  have c51 : mK M47 (mS M9) = 21 := by rw [q48]; exact c41
  have c52 : mK M47 (mS M22) = 21 := by rw [q48]; exact c42
  have c53 : mK M47 (mS M37) = 23 := by rw [q48, mK_newC, va_up_self]
  obtain ⟨M54, q55, h⟩ := rz_m h
  refine rg_putF (r := some (mS M37)) hx hb hown hK hR hk_M 8 (by decide) kf_M_20 rfl hin rfl rfl (ty := .array .boolean) (by decide +kernel) (Or.inr ⟨_, rfl⟩) c50 dM_init_34 (fun H locs hR => ?_)
  rw [← q55] at hR
  have c56 : mK M54 (mS M) = 22 := by rw [q55]; exact c49
  have c57 : mK M54 a0 = 5 := by rw [q55]; exact c50
  have c58 : mK M54 (mS M9) = 21 := by rw [q55]; exact c51
  have c59 : mK M54 (mS M22) = 21 := by rw [q55]; exact c52
  have c60 : mK M54 (mS M37) = 23 := by rw [q55]; exact c53
  refine lv_aload_n hx hb dM_init_37 rfl (lv_at hl 0 rfl) ?_
  refine lv_iconst (v := 4) hx hb dM_init_38 (by decide) ?_
  obtain ⟨c61, h⟩ := rz_chk h
  obtain ⟨c62, h⟩ := rz_chk h
  obtain ⟨c63, h⟩ := rz_chk h
  obtain ⟨c64, h⟩ := rz_chk h
  obtain ⟨M65, q66, h⟩ := rz_m h
  refine rg_newa (kd := 23) hx hb hK hR hRm rfl (by decide) ka_boolean c61 c62 c63 c64 dM_init_39 (fun H hR => ?_)
  rw [← q66] at hR
  have c67 : mK M65 (mS M) = 22 := by rw [q66]; exact c56
  have c68 : mK M65 a0 = 5 := by rw [q66]; exact c57
  have c69 : mK M65 (mS M9) = 21 := by rw [q66]; exact c58
  have c70 : mK M65 (mS M22) = 21 := by rw [q66]; exact c59
  have c71 : mK M65 (mS M37) = 23 := by rw [q66]; exact c60
  have c72 : mK M65 (mS M54) = 23 := by rw [q66, mK_newC, va_up_self]
  obtain ⟨M73, q74, h⟩ := rz_m h
  refine rg_putF (r := some (mS M54)) hx hb hown hK hR hk_M 9 (by decide) kf_M_24 rfl hin rfl rfl (ty := .array .boolean) (by decide +kernel) (Or.inr ⟨_, rfl⟩) c68 dM_init_41 (fun H locs hR => ?_)
  rw [← q74] at hR
  have c75 : mK M73 (mS M) = 22 := by rw [q74]; exact c67
  have c76 : mK M73 a0 = 5 := by rw [q74]; exact c68
  have c77 : mK M73 (mS M9) = 21 := by rw [q74]; exact c69
  have c78 : mK M73 (mS M22) = 21 := by rw [q74]; exact c70
  have c79 : mK M73 (mS M37) = 23 := by rw [q74]; exact c71
  have c80 : mK M73 (mS M54) = 23 := by rw [q74]; exact c72
  refine lv_aload_n hx hb dM_init_44 rfl (lv_at hl 0 rfl) ?_
  refine lv_sipush (v := 260) hx hb dM_init_45 (by decide) ?_
  obtain ⟨c81, h⟩ := rz_chk h
  obtain ⟨c82, h⟩ := rz_chk h
  obtain ⟨c83, h⟩ := rz_chk h
  obtain ⟨c84, h⟩ := rz_chk h
  obtain ⟨M85, q86, h⟩ := rz_m h
  refine rg_newa (kd := 21) hx hb hK hR hRm rfl (by decide) ka_int c81 c82 c83 c84 dM_init_48 (fun H hR => ?_)
  rw [← q86] at hR
  have c87 : mK M85 (mS M) = 22 := by rw [q86]; exact c75
  have c88 : mK M85 a0 = 5 := by rw [q86]; exact c76
  have c89 : mK M85 (mS M9) = 21 := by rw [q86]; exact c77
  have c90 : mK M85 (mS M22) = 21 := by rw [q86]; exact c78
  have c91 : mK M85 (mS M37) = 23 := by rw [q86]; exact c79
  have c92 : mK M85 (mS M54) = 23 := by rw [q86]; exact c80
  have c93 : mK M85 (mS M73) = 21 := by rw [q86, mK_newC, va_up_self]
  obtain ⟨M94, q95, h⟩ := rz_m h
  refine rg_putF (r := some (mS M73)) hx hb hown hK hR hk_M 14 (by decide) kf_M_27 rfl hin rfl rfl (ty := .array .int) (by decide +kernel) (Or.inr ⟨_, rfl⟩) c88 dM_init_50 (fun H locs hR => ?_)
  rw [← q95] at hR
  have c96 : mK M94 (mS M) = 22 := by rw [q95]; exact c87
  have c97 : mK M94 a0 = 5 := by rw [q95]; exact c88
  have c98 : mK M94 (mS M9) = 21 := by rw [q95]; exact c89
  have c99 : mK M94 (mS M22) = 21 := by rw [q95]; exact c90
  have c100 : mK M94 (mS M37) = 23 := by rw [q95]; exact c91
  have c101 : mK M94 (mS M54) = 23 := by rw [q95]; exact c92
  have c102 : mK M94 (mS M73) = 21 := by rw [q95]; exact c93
  refine lv_aload_n hx hb dM_init_53 rfl (lv_at hl 0 rfl) ?_
  refine lv_sipush (v := 260) hx hb dM_init_54 (by decide) ?_
  obtain ⟨c103, h⟩ := rz_chk h
  obtain ⟨c104, h⟩ := rz_chk h
  obtain ⟨c105, h⟩ := rz_chk h
  obtain ⟨c106, h⟩ := rz_chk h
  obtain ⟨M107, q108, h⟩ := rz_m h
  refine rg_newa (kd := 21) hx hb hK hR hRm rfl (by decide) ka_int c103 c104 c105 c106 dM_init_57 (fun H hR => ?_)
  rw [← q108] at hR
  have c109 : mK M107 (mS M) = 22 := by rw [q108]; exact c96
  have c110 : mK M107 a0 = 5 := by rw [q108]; exact c97
  have c111 : mK M107 (mS M9) = 21 := by rw [q108]; exact c98
  have c112 : mK M107 (mS M22) = 21 := by rw [q108]; exact c99
  have c113 : mK M107 (mS M37) = 23 := by rw [q108]; exact c100
  have c114 : mK M107 (mS M54) = 23 := by rw [q108]; exact c101
  have c115 : mK M107 (mS M73) = 21 := by rw [q108]; exact c102
  have c116 : mK M107 (mS M94) = 21 := by rw [q108, mK_newC, va_up_self]
  obtain ⟨M117, q118, h⟩ := rz_m h
  refine rg_putF (r := some (mS M94)) hx hb hown hK hR hk_M 15 (by decide) kf_M_30 rfl hin rfl rfl (ty := .array .int) (by decide +kernel) (Or.inr ⟨_, rfl⟩) c110 dM_init_59 (fun H locs hR => ?_)
  rw [← q118] at hR
  have c119 : mK M117 (mS M) = 22 := by rw [q118]; exact c109
  have c120 : mK M117 a0 = 5 := by rw [q118]; exact c110
  have c121 : mK M117 (mS M9) = 21 := by rw [q118]; exact c111
  have c122 : mK M117 (mS M22) = 21 := by rw [q118]; exact c112
  have c123 : mK M117 (mS M37) = 23 := by rw [q118]; exact c113
  have c124 : mK M117 (mS M54) = 23 := by rw [q118]; exact c114
  have c125 : mK M117 (mS M73) = 21 := by rw [q118]; exact c115
  have c126 : mK M117 (mS M94) = 21 := by rw [q118]; exact c116
  refine lv_aload_n hx hb dM_init_62 rfl (lv_at hl 0 rfl) ?_
  refine lv_iconst (v := 4) hx hb dM_init_63 (by decide) ?_
  obtain ⟨c127, h⟩ := rz_chk h
  obtain ⟨c128, h⟩ := rz_chk h
  obtain ⟨c129, h⟩ := rz_chk h
  obtain ⟨c130, h⟩ := rz_chk h
  obtain ⟨M131, q132, h⟩ := rz_m h
  refine rg_newa (kd := 23) hx hb hK hR hRm rfl (by decide) ka_boolean c127 c128 c129 c130 dM_init_64 (fun H hR => ?_)
  rw [← q132] at hR
  have c133 : mK M131 (mS M) = 22 := by rw [q132]; exact c119
  have c134 : mK M131 a0 = 5 := by rw [q132]; exact c120
  have c135 : mK M131 (mS M9) = 21 := by rw [q132]; exact c121
  have c136 : mK M131 (mS M22) = 21 := by rw [q132]; exact c122
  have c137 : mK M131 (mS M37) = 23 := by rw [q132]; exact c123
  have c138 : mK M131 (mS M54) = 23 := by rw [q132]; exact c124
  have c139 : mK M131 (mS M73) = 21 := by rw [q132]; exact c125
  have c140 : mK M131 (mS M94) = 21 := by rw [q132]; exact c126
  have c141 : mK M131 (mS M117) = 23 := by rw [q132, mK_newC, va_up_self]
  obtain ⟨M142, q143, h⟩ := rz_m h
  refine rg_putF (r := some (mS M117)) hx hb hown hK hR hk_M 16 (by decide) kf_M_33 rfl hin rfl rfl (ty := .array .boolean) (by decide +kernel) (Or.inr ⟨_, rfl⟩) c134 dM_init_66 (fun H locs hR => ?_)
  rw [← q143] at hR
  have c144 : mK M142 (mS M) = 22 := by rw [q143]; exact c133
  have c145 : mK M142 a0 = 5 := by rw [q143]; exact c134
  have c146 : mK M142 (mS M9) = 21 := by rw [q143]; exact c135
  have c147 : mK M142 (mS M22) = 21 := by rw [q143]; exact c136
  have c148 : mK M142 (mS M37) = 23 := by rw [q143]; exact c137
  have c149 : mK M142 (mS M54) = 23 := by rw [q143]; exact c138
  have c150 : mK M142 (mS M73) = 21 := by rw [q143]; exact c139
  have c151 : mK M142 (mS M94) = 21 := by rw [q143]; exact c140
  have c152 : mK M142 (mS M117) = 23 := by rw [q143]; exact c141
  refine lv_aload_n hx hb dM_init_69 rfl (lv_at hl 0 rfl) ?_
  refine lv_iconst (v := 4) hx hb dM_init_70 (by decide) ?_
  obtain ⟨c153, h⟩ := rz_chk h
  obtain ⟨c154, h⟩ := rz_chk h
  obtain ⟨c155, h⟩ := rz_chk h
  obtain ⟨c156, h⟩ := rz_chk h
  obtain ⟨M157, q158, h⟩ := rz_m h
  refine rg_newa (kd := 23) hx hb hK hR hRm rfl (by decide) ka_boolean c153 c154 c155 c156 dM_init_71 (fun H hR => ?_)
  rw [← q158] at hR
  have c159 : mK M157 (mS M) = 22 := by rw [q158]; exact c144
  have c160 : mK M157 a0 = 5 := by rw [q158]; exact c145
  have c161 : mK M157 (mS M9) = 21 := by rw [q158]; exact c146
  have c162 : mK M157 (mS M22) = 21 := by rw [q158]; exact c147
  have c163 : mK M157 (mS M37) = 23 := by rw [q158]; exact c148
  have c164 : mK M157 (mS M54) = 23 := by rw [q158]; exact c149
  have c165 : mK M157 (mS M73) = 21 := by rw [q158]; exact c150
  have c166 : mK M157 (mS M94) = 21 := by rw [q158]; exact c151
  have c167 : mK M157 (mS M117) = 23 := by rw [q158]; exact c152
  have c168 : mK M157 (mS M142) = 23 := by rw [q158, mK_newC, va_up_self]
  obtain ⟨M169, q170, h⟩ := rz_m h
  refine rg_putF (r := some (mS M142)) hx hb hown hK hR hk_M 17 (by decide) kf_M_36 rfl hin rfl rfl (ty := .array .boolean) (by decide +kernel) (Or.inr ⟨_, rfl⟩) c160 dM_init_73 (fun H locs hR => ?_)
  rw [← q170] at hR
  have c171 : mK M169 (mS M) = 22 := by rw [q170]; exact c159
  have c172 : mK M169 a0 = 5 := by rw [q170]; exact c160
  have c173 : mK M169 (mS M9) = 21 := by rw [q170]; exact c161
  have c174 : mK M169 (mS M22) = 21 := by rw [q170]; exact c162
  have c175 : mK M169 (mS M37) = 23 := by rw [q170]; exact c163
  have c176 : mK M169 (mS M54) = 23 := by rw [q170]; exact c164
  have c177 : mK M169 (mS M73) = 21 := by rw [q170]; exact c165
  have c178 : mK M169 (mS M94) = 21 := by rw [q170]; exact c166
  have c179 : mK M169 (mS M117) = 23 := by rw [q170]; exact c167
  have c180 : mK M169 (mS M142) = 23 := by rw [q170]; exact c168
  refine lv_aload_n hx hb dM_init_76 rfl (lv_at hl 0 rfl) ?_
  refine lv_sipush (v := 140) hx hb dM_init_77 (by decide) ?_
  obtain ⟨c181, h⟩ := rz_chk h
  obtain ⟨c182, h⟩ := rz_chk h
  obtain ⟨c183, h⟩ := rz_chk h
  obtain ⟨c184, h⟩ := rz_chk h
  obtain ⟨M185, q186, h⟩ := rz_m h
  refine rg_newa (kd := 21) hx hb hK hR hRm rfl (by decide) ka_int c181 c182 c183 c184 dM_init_80 (fun H hR => ?_)
  rw [← q186] at hR
  have c187 : mK M185 (mS M) = 22 := by rw [q186]; exact c171
  have c188 : mK M185 a0 = 5 := by rw [q186]; exact c172
  have c189 : mK M185 (mS M9) = 21 := by rw [q186]; exact c173
  have c190 : mK M185 (mS M22) = 21 := by rw [q186]; exact c174
  have c191 : mK M185 (mS M37) = 23 := by rw [q186]; exact c175
  have c192 : mK M185 (mS M54) = 23 := by rw [q186]; exact c176
  have c193 : mK M185 (mS M73) = 21 := by rw [q186]; exact c177
  have c194 : mK M185 (mS M94) = 21 := by rw [q186]; exact c178
  have c195 : mK M185 (mS M117) = 23 := by rw [q186]; exact c179
  have c196 : mK M185 (mS M142) = 23 := by rw [q186]; exact c180
  have c197 : mK M185 (mS M169) = 21 := by rw [q186, mK_newC, va_up_self]
  obtain ⟨M198, q199, h⟩ := rz_m h
  refine rg_putF (r := some (mS M169)) hx hb hown hK hR hk_M 20 (by decide) kf_M_39 rfl hin rfl rfl (ty := .array .int) (by decide +kernel) (Or.inr ⟨_, rfl⟩) c188 dM_init_82 (fun H locs hR => ?_)
  rw [← q199] at hR
  have c200 : mK M198 (mS M) = 22 := by rw [q199]; exact c187
  have c201 : mK M198 a0 = 5 := by rw [q199]; exact c188
  have c202 : mK M198 (mS M9) = 21 := by rw [q199]; exact c189
  have c203 : mK M198 (mS M22) = 21 := by rw [q199]; exact c190
  have c204 : mK M198 (mS M37) = 23 := by rw [q199]; exact c191
  have c205 : mK M198 (mS M54) = 23 := by rw [q199]; exact c192
  have c206 : mK M198 (mS M73) = 21 := by rw [q199]; exact c193
  have c207 : mK M198 (mS M94) = 21 := by rw [q199]; exact c194
  have c208 : mK M198 (mS M117) = 23 := by rw [q199]; exact c195
  have c209 : mK M198 (mS M142) = 23 := by rw [q199]; exact c196
  have c210 : mK M198 (mS M169) = 21 := by rw [q199]; exact c197
  refine lv_aload_n hx hb dM_init_85 rfl (lv_at hl 0 rfl) ?_
  refine lv_sipush (v := 140) hx hb dM_init_86 (by decide) ?_
  obtain ⟨c211, h⟩ := rz_chk h
  obtain ⟨c212, h⟩ := rz_chk h
  obtain ⟨c213, h⟩ := rz_chk h
  obtain ⟨c214, h⟩ := rz_chk h
  obtain ⟨M215, q216, h⟩ := rz_m h
  refine rg_newa (kd := 21) hx hb hK hR hRm rfl (by decide) ka_int c211 c212 c213 c214 dM_init_89 (fun H hR => ?_)
  rw [← q216] at hR
  have c217 : mK M215 (mS M) = 22 := by rw [q216]; exact c200
  have c218 : mK M215 a0 = 5 := by rw [q216]; exact c201
  have c219 : mK M215 (mS M9) = 21 := by rw [q216]; exact c202
  have c220 : mK M215 (mS M22) = 21 := by rw [q216]; exact c203
  have c221 : mK M215 (mS M37) = 23 := by rw [q216]; exact c204
  have c222 : mK M215 (mS M54) = 23 := by rw [q216]; exact c205
  have c223 : mK M215 (mS M73) = 21 := by rw [q216]; exact c206
  have c224 : mK M215 (mS M94) = 21 := by rw [q216]; exact c207
  have c225 : mK M215 (mS M117) = 23 := by rw [q216]; exact c208
  have c226 : mK M215 (mS M142) = 23 := by rw [q216]; exact c209
  have c227 : mK M215 (mS M169) = 21 := by rw [q216]; exact c210
  have c228 : mK M215 (mS M198) = 21 := by rw [q216, mK_newC, va_up_self]
  obtain ⟨M229, q230, h⟩ := rz_m h
  refine rg_putF (r := some (mS M198)) hx hb hown hK hR hk_M 21 (by decide) kf_M_42 rfl hin rfl rfl (ty := .array .int) (by decide +kernel) (Or.inr ⟨_, rfl⟩) c218 dM_init_91 (fun H locs hR => ?_)
  rw [← q230] at hR
  have c231 : mK M229 (mS M) = 22 := by rw [q230]; exact c217
  have c232 : mK M229 a0 = 5 := by rw [q230]; exact c218
  have c233 : mK M229 (mS M9) = 21 := by rw [q230]; exact c219
  have c234 : mK M229 (mS M22) = 21 := by rw [q230]; exact c220
  have c235 : mK M229 (mS M37) = 23 := by rw [q230]; exact c221
  have c236 : mK M229 (mS M54) = 23 := by rw [q230]; exact c222
  have c237 : mK M229 (mS M73) = 21 := by rw [q230]; exact c223
  have c238 : mK M229 (mS M94) = 21 := by rw [q230]; exact c224
  have c239 : mK M229 (mS M117) = 23 := by rw [q230]; exact c225
  have c240 : mK M229 (mS M142) = 23 := by rw [q230]; exact c226
  have c241 : mK M229 (mS M169) = 21 := by rw [q230]; exact c227
  have c242 : mK M229 (mS M198) = 21 := by rw [q230]; exact c228
  refine lv_aload_n hx hb dM_init_94 rfl (lv_at hl 0 rfl) ?_
  refine lv_sipush (v := 140) hx hb dM_init_95 (by decide) ?_
  obtain ⟨c243, h⟩ := rz_chk h
  obtain ⟨c244, h⟩ := rz_chk h
  obtain ⟨c245, h⟩ := rz_chk h
  obtain ⟨c246, h⟩ := rz_chk h
  obtain ⟨M247, q248, h⟩ := rz_m h
  refine rg_newa (kd := 21) hx hb hK hR hRm rfl (by decide) ka_int c243 c244 c245 c246 dM_init_98 (fun H hR => ?_)
  rw [← q248] at hR
  have c249 : mK M247 (mS M) = 22 := by rw [q248]; exact c231
  have c250 : mK M247 a0 = 5 := by rw [q248]; exact c232
  have c251 : mK M247 (mS M9) = 21 := by rw [q248]; exact c233
  have c252 : mK M247 (mS M22) = 21 := by rw [q248]; exact c234
  have c253 : mK M247 (mS M37) = 23 := by rw [q248]; exact c235
  have c254 : mK M247 (mS M54) = 23 := by rw [q248]; exact c236
  have c255 : mK M247 (mS M73) = 21 := by rw [q248]; exact c237
  have c256 : mK M247 (mS M94) = 21 := by rw [q248]; exact c238
  have c257 : mK M247 (mS M117) = 23 := by rw [q248]; exact c239
  have c258 : mK M247 (mS M142) = 23 := by rw [q248]; exact c240
  have c259 : mK M247 (mS M169) = 21 := by rw [q248]; exact c241
  have c260 : mK M247 (mS M198) = 21 := by rw [q248]; exact c242
  have c261 : mK M247 (mS M229) = 21 := by rw [q248, mK_newC, va_up_self]
  obtain ⟨M262, q263, h⟩ := rz_m h
  refine rg_putF (r := some (mS M229)) hx hb hown hK hR hk_M 22 (by decide) kf_M_45 rfl hin rfl rfl (ty := .array .int) (by decide +kernel) (Or.inr ⟨_, rfl⟩) c250 dM_init_100 (fun H locs hR => ?_)
  rw [← q263] at hR
  have c264 : mK M262 (mS M) = 22 := by rw [q263]; exact c249
  have c265 : mK M262 a0 = 5 := by rw [q263]; exact c250
  have c266 : mK M262 (mS M9) = 21 := by rw [q263]; exact c251
  have c267 : mK M262 (mS M22) = 21 := by rw [q263]; exact c252
  have c268 : mK M262 (mS M37) = 23 := by rw [q263]; exact c253
  have c269 : mK M262 (mS M54) = 23 := by rw [q263]; exact c254
  have c270 : mK M262 (mS M73) = 21 := by rw [q263]; exact c255
  have c271 : mK M262 (mS M94) = 21 := by rw [q263]; exact c256
  have c272 : mK M262 (mS M117) = 23 := by rw [q263]; exact c257
  have c273 : mK M262 (mS M142) = 23 := by rw [q263]; exact c258
  have c274 : mK M262 (mS M169) = 21 := by rw [q263]; exact c259
  have c275 : mK M262 (mS M198) = 21 := by rw [q263]; exact c260
  have c276 : mK M262 (mS M229) = 21 := by rw [q263]; exact c261
  refine lv_aload_n hx hb dM_init_103 rfl (lv_at hl 0 rfl) ?_
  refine lv_bipush (v := 6) hx hb dM_init_104 (by decide) ?_
  obtain ⟨c277, h⟩ := rz_chk h
  obtain ⟨c278, h⟩ := rz_chk h
  obtain ⟨c279, h⟩ := rz_chk h
  obtain ⟨c280, h⟩ := rz_chk h
  obtain ⟨M281, q282, h⟩ := rz_m h
  refine rg_newa (kd := 21) hx hb hK hR hRm rfl (by decide) ka_int c277 c278 c279 c280 dM_init_106 (fun H hR => ?_)
  rw [← q282] at hR
  have c283 : mK M281 (mS M) = 22 := by rw [q282]; exact c264
  have c284 : mK M281 a0 = 5 := by rw [q282]; exact c265
  have c285 : mK M281 (mS M9) = 21 := by rw [q282]; exact c266
  have c286 : mK M281 (mS M22) = 21 := by rw [q282]; exact c267
  have c287 : mK M281 (mS M37) = 23 := by rw [q282]; exact c268
  have c288 : mK M281 (mS M54) = 23 := by rw [q282]; exact c269
  have c289 : mK M281 (mS M73) = 21 := by rw [q282]; exact c270
  have c290 : mK M281 (mS M94) = 21 := by rw [q282]; exact c271
  have c291 : mK M281 (mS M117) = 23 := by rw [q282]; exact c272
  have c292 : mK M281 (mS M142) = 23 := by rw [q282]; exact c273
  have c293 : mK M281 (mS M169) = 21 := by rw [q282]; exact c274
  have c294 : mK M281 (mS M198) = 21 := by rw [q282]; exact c275
  have c295 : mK M281 (mS M229) = 21 := by rw [q282]; exact c276
  have c296 : mK M281 (mS M262) = 21 := by rw [q282, mK_newC, va_up_self]
  obtain ⟨M297, q298, h⟩ := rz_m h
  refine rg_putF (r := some (mS M262)) hx hb hown hK hR hk_M 23 (by decide) kf_M_48 rfl hin rfl rfl (ty := .array .int) (by decide +kernel) (Or.inr ⟨_, rfl⟩) c284 dM_init_108 (fun H locs hR => ?_)
  rw [← q298] at hR
  have c299 : mK M297 (mS M) = 22 := by rw [q298]; exact c283
  have c300 : mK M297 a0 = 5 := by rw [q298]; exact c284
  have c301 : mK M297 (mS M9) = 21 := by rw [q298]; exact c285
  have c302 : mK M297 (mS M22) = 21 := by rw [q298]; exact c286
  have c303 : mK M297 (mS M37) = 23 := by rw [q298]; exact c287
  have c304 : mK M297 (mS M54) = 23 := by rw [q298]; exact c288
  have c305 : mK M297 (mS M73) = 21 := by rw [q298]; exact c289
  have c306 : mK M297 (mS M94) = 21 := by rw [q298]; exact c290
  have c307 : mK M297 (mS M117) = 23 := by rw [q298]; exact c291
  have c308 : mK M297 (mS M142) = 23 := by rw [q298]; exact c292
  have c309 : mK M297 (mS M169) = 21 := by rw [q298]; exact c293
  have c310 : mK M297 (mS M198) = 21 := by rw [q298]; exact c294
  have c311 : mK M297 (mS M229) = 21 := by rw [q298]; exact c295
  have c312 : mK M297 (mS M262) = 21 := by rw [q298]; exact c296
  refine lv_aload_n hx hb dM_init_111 rfl (lv_at hl 0 rfl) ?_
  refine lv_iconst (v := 4) hx hb dM_init_112 (by decide) ?_
  obtain ⟨c313, h⟩ := rz_chk h
  obtain ⟨c314, h⟩ := rz_chk h
  obtain ⟨c315, h⟩ := rz_chk h
  obtain ⟨c316, h⟩ := rz_chk h
  obtain ⟨M317, q318, h⟩ := rz_m h
  refine rg_newa (kd := 21) hx hb hK hR hRm rfl (by decide) ka_int c313 c314 c315 c316 dM_init_113 (fun H hR => ?_)
  rw [← q318] at hR
  have c319 : mK M317 (mS M) = 22 := by rw [q318]; exact c299
  have c320 : mK M317 a0 = 5 := by rw [q318]; exact c300
  have c321 : mK M317 (mS M9) = 21 := by rw [q318]; exact c301
  have c322 : mK M317 (mS M22) = 21 := by rw [q318]; exact c302
  have c323 : mK M317 (mS M37) = 23 := by rw [q318]; exact c303
  have c324 : mK M317 (mS M54) = 23 := by rw [q318]; exact c304
  have c325 : mK M317 (mS M73) = 21 := by rw [q318]; exact c305
  have c326 : mK M317 (mS M94) = 21 := by rw [q318]; exact c306
  have c327 : mK M317 (mS M117) = 23 := by rw [q318]; exact c307
  have c328 : mK M317 (mS M142) = 23 := by rw [q318]; exact c308
  have c329 : mK M317 (mS M169) = 21 := by rw [q318]; exact c309
  have c330 : mK M317 (mS M198) = 21 := by rw [q318]; exact c310
  have c331 : mK M317 (mS M229) = 21 := by rw [q318]; exact c311
  have c332 : mK M317 (mS M262) = 21 := by rw [q318]; exact c312
  have c333 : mK M317 (mS M297) = 21 := by rw [q318, mK_newC, va_up_self]
  obtain ⟨M334, q335, h⟩ := rz_m h
  refine rg_putF (r := some (mS M297)) hx hb hown hK hR hk_M 36 (by decide) kf_M_51 rfl hin rfl rfl (ty := .array .int) (by decide +kernel) (Or.inr ⟨_, rfl⟩) c320 dM_init_115 (fun H locs hR => ?_)
  rw [← q335] at hR
  have c336 : mK M334 (mS M) = 22 := by rw [q335]; exact c319
  have c337 : mK M334 a0 = 5 := by rw [q335]; exact c320
  have c338 : mK M334 (mS M9) = 21 := by rw [q335]; exact c321
  have c339 : mK M334 (mS M22) = 21 := by rw [q335]; exact c322
  have c340 : mK M334 (mS M37) = 23 := by rw [q335]; exact c323
  have c341 : mK M334 (mS M54) = 23 := by rw [q335]; exact c324
  have c342 : mK M334 (mS M73) = 21 := by rw [q335]; exact c325
  have c343 : mK M334 (mS M94) = 21 := by rw [q335]; exact c326
  have c344 : mK M334 (mS M117) = 23 := by rw [q335]; exact c327
  have c345 : mK M334 (mS M142) = 23 := by rw [q335]; exact c328
  have c346 : mK M334 (mS M169) = 21 := by rw [q335]; exact c329
  have c347 : mK M334 (mS M198) = 21 := by rw [q335]; exact c330
  have c348 : mK M334 (mS M229) = 21 := by rw [q335]; exact c331
  have c349 : mK M334 (mS M262) = 21 := by rw [q335]; exact c332
  have c350 : mK M334 (mS M297) = 21 := by rw [q335]; exact c333
  refine lv_aload_n hx hb dM_init_118 rfl (lv_at hl 0 rfl) ?_
  refine lv_iconst (v := 4) hx hb dM_init_119 (by decide) ?_
  obtain ⟨c351, h⟩ := rz_chk h
  obtain ⟨c352, h⟩ := rz_chk h
  obtain ⟨c353, h⟩ := rz_chk h
  obtain ⟨c354, h⟩ := rz_chk h
  obtain ⟨M355, q356, h⟩ := rz_m h
  refine rg_newa (kd := 21) hx hb hK hR hRm rfl (by decide) ka_int c351 c352 c353 c354 dM_init_120 (fun H hR => ?_)
  rw [← q356] at hR
  have c357 : mK M355 (mS M) = 22 := by rw [q356]; exact c336
  have c358 : mK M355 a0 = 5 := by rw [q356]; exact c337
  have c359 : mK M355 (mS M9) = 21 := by rw [q356]; exact c338
  have c360 : mK M355 (mS M22) = 21 := by rw [q356]; exact c339
  have c361 : mK M355 (mS M37) = 23 := by rw [q356]; exact c340
  have c362 : mK M355 (mS M54) = 23 := by rw [q356]; exact c341
  have c363 : mK M355 (mS M73) = 21 := by rw [q356]; exact c342
  have c364 : mK M355 (mS M94) = 21 := by rw [q356]; exact c343
  have c365 : mK M355 (mS M117) = 23 := by rw [q356]; exact c344
  have c366 : mK M355 (mS M142) = 23 := by rw [q356]; exact c345
  have c367 : mK M355 (mS M169) = 21 := by rw [q356]; exact c346
  have c368 : mK M355 (mS M198) = 21 := by rw [q356]; exact c347
  have c369 : mK M355 (mS M229) = 21 := by rw [q356]; exact c348
  have c370 : mK M355 (mS M262) = 21 := by rw [q356]; exact c349
  have c371 : mK M355 (mS M297) = 21 := by rw [q356]; exact c350
  have c372 : mK M355 (mS M334) = 21 := by rw [q356, mK_newC, va_up_self]
  obtain ⟨M373, q374, h⟩ := rz_m h
  refine rg_putF (r := some (mS M334)) hx hb hown hK hR hk_M 37 (by decide) kf_M_54 rfl hin rfl rfl (ty := .array .int) (by decide +kernel) (Or.inr ⟨_, rfl⟩) c358 dM_init_122 (fun H locs hR => ?_)
  rw [← q374] at hR
  have c375 : mK M373 (mS M) = 22 := by rw [q374]; exact c357
  have c376 : mK M373 a0 = 5 := by rw [q374]; exact c358
  have c377 : mK M373 (mS M9) = 21 := by rw [q374]; exact c359
  have c378 : mK M373 (mS M22) = 21 := by rw [q374]; exact c360
  have c379 : mK M373 (mS M37) = 23 := by rw [q374]; exact c361
  have c380 : mK M373 (mS M54) = 23 := by rw [q374]; exact c362
  have c381 : mK M373 (mS M73) = 21 := by rw [q374]; exact c363
  have c382 : mK M373 (mS M94) = 21 := by rw [q374]; exact c364
  have c383 : mK M373 (mS M117) = 23 := by rw [q374]; exact c365
  have c384 : mK M373 (mS M142) = 23 := by rw [q374]; exact c366
  have c385 : mK M373 (mS M169) = 21 := by rw [q374]; exact c367
  have c386 : mK M373 (mS M198) = 21 := by rw [q374]; exact c368
  have c387 : mK M373 (mS M229) = 21 := by rw [q374]; exact c369
  have c388 : mK M373 (mS M262) = 21 := by rw [q374]; exact c370
  have c389 : mK M373 (mS M297) = 21 := by rw [q374]; exact c371
  have c390 : mK M373 (mS M334) = 21 := by rw [q374]; exact c372
  refine lv_aload_n hx hb dM_init_125 rfl (lv_at hl 0 rfl) ?_
  refine lv_sipush (v := 260) hx hb dM_init_126 (by decide) ?_
  obtain ⟨c391, h⟩ := rz_chk h
  obtain ⟨c392, h⟩ := rz_chk h
  obtain ⟨c393, h⟩ := rz_chk h
  obtain ⟨c394, h⟩ := rz_chk h
  obtain ⟨M395, q396, h⟩ := rz_m h
  refine rg_newa (kd := 21) hx hb hK hR hRm rfl (by decide) ka_int c391 c392 c393 c394 dM_init_129 (fun H hR => ?_)
  rw [← q396] at hR
  have c397 : mK M395 (mS M) = 22 := by rw [q396]; exact c375
  have c398 : mK M395 a0 = 5 := by rw [q396]; exact c376
  have c399 : mK M395 (mS M9) = 21 := by rw [q396]; exact c377
  have c400 : mK M395 (mS M22) = 21 := by rw [q396]; exact c378
  have c401 : mK M395 (mS M37) = 23 := by rw [q396]; exact c379
  have c402 : mK M395 (mS M54) = 23 := by rw [q396]; exact c380
  have c403 : mK M395 (mS M73) = 21 := by rw [q396]; exact c381
  have c404 : mK M395 (mS M94) = 21 := by rw [q396]; exact c382
  have c405 : mK M395 (mS M117) = 23 := by rw [q396]; exact c383
  have c406 : mK M395 (mS M142) = 23 := by rw [q396]; exact c384
  have c407 : mK M395 (mS M169) = 21 := by rw [q396]; exact c385
  have c408 : mK M395 (mS M198) = 21 := by rw [q396]; exact c386
  have c409 : mK M395 (mS M229) = 21 := by rw [q396]; exact c387
  have c410 : mK M395 (mS M262) = 21 := by rw [q396]; exact c388
  have c411 : mK M395 (mS M297) = 21 := by rw [q396]; exact c389
  have c412 : mK M395 (mS M334) = 21 := by rw [q396]; exact c390
  have c413 : mK M395 (mS M373) = 21 := by rw [q396, mK_newC, va_up_self]
  obtain ⟨M414, q415, h⟩ := rz_m h
  refine rg_putF (r := some (mS M373)) hx hb hown hK hR hk_M 39 (by decide) kf_M_57 rfl hin rfl rfl (ty := .array .int) (by decide +kernel) (Or.inr ⟨_, rfl⟩) c398 dM_init_131 (fun H locs hR => ?_)
  rw [← q415] at hR
  have c416 : mK M414 (mS M) = 22 := by rw [q415]; exact c397
  have c417 : mK M414 a0 = 5 := by rw [q415]; exact c398
  have c418 : mK M414 (mS M9) = 21 := by rw [q415]; exact c399
  have c419 : mK M414 (mS M22) = 21 := by rw [q415]; exact c400
  have c420 : mK M414 (mS M37) = 23 := by rw [q415]; exact c401
  have c421 : mK M414 (mS M54) = 23 := by rw [q415]; exact c402
  have c422 : mK M414 (mS M73) = 21 := by rw [q415]; exact c403
  have c423 : mK M414 (mS M94) = 21 := by rw [q415]; exact c404
  have c424 : mK M414 (mS M117) = 23 := by rw [q415]; exact c405
  have c425 : mK M414 (mS M142) = 23 := by rw [q415]; exact c406
  have c426 : mK M414 (mS M169) = 21 := by rw [q415]; exact c407
  have c427 : mK M414 (mS M198) = 21 := by rw [q415]; exact c408
  have c428 : mK M414 (mS M229) = 21 := by rw [q415]; exact c409
  have c429 : mK M414 (mS M262) = 21 := by rw [q415]; exact c410
  have c430 : mK M414 (mS M297) = 21 := by rw [q415]; exact c411
  have c431 : mK M414 (mS M334) = 21 := by rw [q415]; exact c412
  have c432 : mK M414 (mS M373) = 21 := by rw [q415]; exact c413
  cases h
  exact rt_v hx hb hlk hrt hR dM_init_134
set_option maxRecDepth 100000 in
set_option maxHeartbeats 4000000 in
theorem sM_init {l : Launch} {G : Gx} {n d : Nat} {C : Cx} (hC : CBs l G d C) (a0 : Nat) {M M' : Mem} {r : Option Value ⊕ Nat} (h : fM_init_0 n d C a0 M = some (r, M')) : CB l G (d + 1) yM_init [.ref a0] M r M' := by
  intro p e R s m below meth c hx hn hm hc hlk hK hR hcap hS hU hfr hlo hrc hrs
  obtain ⟨hb, hml, hrt, hex, hown⟩ := fx_of hn hm hc (hK.w mfM_init.2.2.1 rfl #[])
  have F : FX p s m meth c G R M d "HeadCountModel" bM_init 1 none := ⟨hx, hb, hml, hown, hrt, hlk, hex, hK, hfr, hlo, by rw [← hcap]; exact hrc, hrs⟩
  rw [hml]
  have hl := lv_entry ([.ref a0]) (n := 1) (by simp [lg_sl, cat_rf, Value.category])
  rw [lg_entry_eq]
  generalize (lg_sl ([.ref a0]) ++ List.replicate (1 - (lg_sl ([.ref a0])).length) Slot.unset).toArray = ls at hl ⊢
  have hl : lv_has ls 1 [(0, .ref a0)] := by simpa [lv_args, cat_rf, Value.category] using hl
  exact tM_init_0 F (name_of_methodNamed hn hm).1 hC a0 _ _ _ _ _ _ h (RL.start hR hcap hS hU) (lv_sub hl [0] rfl)
def fM_thrown_0 (n d : Nat) (C : Cx) (a0 : Nat) (M : Mem) : Rz := if mK M a0 = 5 then (some (.inl (some (.int (mI M a0 0))), M)) else none
set_option maxRecDepth 100000 in
set_option maxHeartbeats 4000000 in
theorem tM_thrown_0 {n : Nat} (F : FX p s m meth c G R M0 d "HeadCountModel" bM_thrown 1 (some .int)) (hC : CBs l G d C) : ∀ (a0 : Nat) (M : Mem) (H : Heap) (locs : List Loc) (cells slots : Nat) (ls : Array Slot), fM_thrown_0 n d C a0 M = some (r, M') → RL G M0 M H locs cells slots → lv_has ls 1 [(0, .ref a0)] → W p l e R s m args below meth c H locs cells slots (CQ G below s M0 r M') (F0 m 0 ls []) := by
  obtain ⟨hx, hb, hml, hown, hrt, hlk, hex, hK, hRm⟩ := id F
  intro a0 M H locs cells slots ls h hR hl
  unfold fM_thrown_0 at h
  refine lv_aload_n hx hb dM_thrown_0 rfl (lv_at hl 0 rfl) ?_
  obtain ⟨c1, h⟩ := rz_chk h
  refine rg_getI hx hb hown hK hR hk_M 0 (by decide) kf_M_60 rfl c1 dM_thrown_1 ?_
  cases h
  exact rt_i hx hb hlk hrt (Or.inl rfl) rfl hR dM_thrown_4
set_option maxRecDepth 100000 in
set_option maxHeartbeats 4000000 in
theorem sM_thrown {l : Launch} {G : Gx} {n d : Nat} {C : Cx} (hC : CBs l G d C) (a0 : Nat) {M M' : Mem} {r : Option Value ⊕ Nat} (h : fM_thrown_0 n d C a0 M = some (r, M')) : CB l G (d + 1) yM_thrown [.ref a0] M r M' := by
  intro p e R s m below meth c hx hn hm hc hlk hK hR hcap hS hU hfr hlo hrc hrs
  obtain ⟨hb, hml, hrt, hex, hown⟩ := fx_of hn hm hc (hK.w mfM_thrown.2.2.1 rfl #[])
  have F : FX p s m meth c G R M d "HeadCountModel" bM_thrown 1 (some .int) := ⟨hx, hb, hml, hown, hrt, hlk, hex, hK, hfr, hlo, by rw [← hcap]; exact hrc, hrs⟩
  rw [hml]
  have hl := lv_entry ([.ref a0]) (n := 1) (by simp [lg_sl, cat_rf, Value.category])
  rw [lg_entry_eq]
  generalize (lg_sl ([.ref a0]) ++ List.replicate (1 - (lg_sl ([.ref a0])).length) Slot.unset).toArray = ls at hl ⊢
  have hl : lv_has ls 1 [(0, .ref a0)] := by simpa [lv_args, cat_rf, Value.category] using hl
  exact tM_thrown_0 F hC a0 _ _ _ _ _ _ h (RL.start hR hcap hS hU) (lv_sub hl [0] rfl)
def fM_write_50 (n d : Nat) (C : Cx) (M : Mem) : Rz := if fits .boolean (.int 0) = true then (some (.inl (some (.int 0)), M)) else none
set_option maxRecDepth 100000 in
set_option maxHeartbeats 4000000 in
theorem tM_write_50 {n : Nat} (F : FX p s m meth c G R M0 d "HeadCountModel" bM_write 6 (some .boolean)) (hC : CBs l G d C) : ∀ (M : Mem) (H : Heap) (locs : List Loc) (cells slots : Nat) (ls : Array Slot), fM_write_50 n d C M = some (r, M') → RL G M0 M H locs cells slots → lv_has ls 6 [] → W p l e R s m args below meth c H locs cells slots (CQ G below s M0 r M') (F0 m 50 ls []) := by
  obtain ⟨hx, hb, hml, hown, hrt, hlk, hex, hK, hRm⟩ := id F
  intro M H locs cells slots ls h hR hl
  unfold fM_write_50 at h
  refine lv_iconst (v := 0) hx hb dM_write_50 (by decide) ?_
  obtain ⟨c1, h⟩ := rz_chk h
  cases h
  exact rt_i hx hb hlk hrt (Or.inr (Or.inr rfl)) c1 hR dM_write_51
def fM_write_63 (n d : Nat) (C : Cx) (k10 : Nat → Int64 → Int32 → Int32 → Mem → Rz) (a0 : Nat) (l1 : Int64) (x4 : Int32) (xs0 : Int32) (xs1 : Int32) (M : Mem) : Rz := k10 a0 l1 (xs1 + xs0) (x4 + 1) M
set_option maxRecDepth 100000 in
set_option maxHeartbeats 4000000 in
theorem tM_write_63 {n : Nat} {k10 : Nat → Int64 → Int32 → Int32 → Mem → Rz} (F : FX p s m meth c G R M0 d "HeadCountModel" bM_write 6 (some .boolean)) (hC : CBs l G d C) (hk10 : ∀ (a0 : Nat) (l1 : Int64) (x3 : Int32) (x4 : Int32) (M : Mem) (H : Heap) (locs : List Loc) (cells slots : Nat) (ls : Array Slot), k10 a0 l1 x3 x4 M = some (r, M') → RL G M0 M H locs cells slots → lv_has ls 6 [(0, .ref a0), (1, .long l1), (3, .int x3), (4, .int x4)] → W p l e R s m args below meth c H locs cells slots (CQ G below s M0 r M') (F0 m 10 ls [])) : ∀ (a0 : Nat) (l1 : Int64) (x4 : Int32) (xs0 : Int32) (xs1 : Int32) (M : Mem) (H : Heap) (locs : List Loc) (cells slots : Nat) (ls : Array Slot), fM_write_63 n d C k10 a0 l1 x4 xs0 xs1 M = some (r, M') → RL G M0 M H locs cells slots → lv_has ls 6 [(0, .ref a0), (1, .long l1), (4, .int x4)] → W p l e R s m args below meth c H locs cells slots (CQ G below s M0 r M') (F0 m 63 ls [.int xs0, .int xs1]) := by
  obtain ⟨hx, hb, hml, hown, hrt, hlk, hex, hK, hRm⟩ := id F
  intro a0 l1 x4 xs0 xs1 M H locs cells slots ls h hR hl
  unfold fM_write_63 at h
  refine lv_iadd hx hb dM_write_63 ?_
  refine lv_istore_n (lv' := [(3, .int (xs1 + xs0)), (0, .ref a0), (1, .long l1), (4, .int x4)]) hx hb dM_write_64 rfl hl (by decide) rfl (fun ls hl => ?_)
  refine lv_iinc (k := 3) (v := x4 + 1) (lv' := [(4, .int (x4 + 1)), (3, .int (xs1 + xs0)), (0, .ref a0), (1, .long l1)]) hx hb dM_write_65 hl rfl (by rw [show Int32.ofInt 1 = 1 from by decide]) (by decide) rfl (fun ls hl => ?_)
  refine lv_goto (tgt := 10) hx hb dM_write_68 (by decide) ?_
  exact hk10 a0 l1 (xs1 + xs0) (x4 + 1) _ _ _ _ _ _ h hR (lv_sub hl [2, 3, 1, 0] rfl)
def fM_write_52 (n d : Nat) (C : Cx) (k10 : Nat → Int64 → Int32 → Int32 → Mem → Rz) (a0 : Nat) (l1 : Int64) (x3 : Int32) (x4 : Int32) (x5 : Int32) (M : Mem) : Rz := if x5 = 0 then (fM_write_63 n d C k10 a0 l1 x4 0 x3 M) else (fM_write_63 n d C k10 a0 l1 x4 1 x3 M)
set_option maxRecDepth 100000 in
set_option maxHeartbeats 4000000 in
theorem tM_write_52 {n : Nat} {k10 : Nat → Int64 → Int32 → Int32 → Mem → Rz} (F : FX p s m meth c G R M0 d "HeadCountModel" bM_write 6 (some .boolean)) (hC : CBs l G d C) (hk10 : ∀ (a0 : Nat) (l1 : Int64) (x3 : Int32) (x4 : Int32) (M : Mem) (H : Heap) (locs : List Loc) (cells slots : Nat) (ls : Array Slot), k10 a0 l1 x3 x4 M = some (r, M') → RL G M0 M H locs cells slots → lv_has ls 6 [(0, .ref a0), (1, .long l1), (3, .int x3), (4, .int x4)] → W p l e R s m args below meth c H locs cells slots (CQ G below s M0 r M') (F0 m 10 ls [])) : ∀ (a0 : Nat) (l1 : Int64) (x3 : Int32) (x4 : Int32) (x5 : Int32) (M : Mem) (H : Heap) (locs : List Loc) (cells slots : Nat) (ls : Array Slot), fM_write_52 n d C k10 a0 l1 x3 x4 x5 M = some (r, M') → RL G M0 M H locs cells slots → lv_has ls 6 [(0, .ref a0), (1, .long l1), (3, .int x3), (4, .int x4), (5, .int x5)] → W p l e R s m args below meth c H locs cells slots (CQ G below s M0 r M') (F0 m 52 ls []) := by
  obtain ⟨hx, hb, hml, hown, hrt, hlk, hex, hK, hRm⟩ := id F
  intro a0 l1 x3 x4 x5 M H locs cells slots ls h hR hl
  unfold fM_write_52 at h
  refine lv_iload_n hx hb dM_write_52 rfl (lv_at hl 2 rfl) ?_
  refine lv_iload hx hb dM_write_53 (lv_at hl 4 rfl) ?_
  refine lv_if_ne (tgt := 62) hx hb dM_write_55 (by decide) (fun c1 => ?_) (fun c1 => ?_)
  · replace h := rz_f c1 h
    refine lv_iconst (v := 1) hx hb dM_write_62 (by decide) ?_
    exact tM_write_63 F hC hk10 a0 l1 x4 1 x3 _ _ _ _ _ _ h hR (lv_sub hl [0, 1, 3] rfl)
  · replace h := rz_t c1 h
    refine lv_iconst (v := 0) hx hb dM_write_58 (by decide) ?_
    refine lv_goto (tgt := 63) hx hb dM_write_59 (by decide) ?_
    exact tM_write_63 F hC hk10 a0 l1 x4 0 x3 _ _ _ _ _ _ h hR (lv_sub hl [0, 1, 3] rfl)
def fM_write_135 (n d : Nat) (C : Cx) (k87 : Nat → Int64 → Int32 → Mem → Rz) (a0 : Nat) (l1 : Int64) (x4 : Int32) (M : Mem) : Rz := k87 a0 l1 (x4 + 1) M
set_option maxRecDepth 100000 in
set_option maxHeartbeats 4000000 in
theorem tM_write_135 {n : Nat} {k87 : Nat → Int64 → Int32 → Mem → Rz} (F : FX p s m meth c G R M0 d "HeadCountModel" bM_write 6 (some .boolean)) (hC : CBs l G d C) (hk87 : ∀ (a0 : Nat) (l1 : Int64) (x4 : Int32) (M : Mem) (H : Heap) (locs : List Loc) (cells slots : Nat) (ls : Array Slot), k87 a0 l1 x4 M = some (r, M') → RL G M0 M H locs cells slots → lv_has ls 6 [(0, .ref a0), (1, .long l1), (4, .int x4)] → W p l e R s m args below meth c H locs cells slots (CQ G below s M0 r M') (F0 m 87 ls [])) : ∀ (a0 : Nat) (l1 : Int64) (x4 : Int32) (M : Mem) (H : Heap) (locs : List Loc) (cells slots : Nat) (ls : Array Slot), fM_write_135 n d C k87 a0 l1 x4 M = some (r, M') → RL G M0 M H locs cells slots → lv_has ls 6 [(0, .ref a0), (1, .long l1), (4, .int x4)] → W p l e R s m args below meth c H locs cells slots (CQ G below s M0 r M') (F0 m 135 ls []) := by
  obtain ⟨hx, hb, hml, hown, hrt, hlk, hex, hK, hRm⟩ := id F
  intro a0 l1 x4 M H locs cells slots ls h hR hl
  unfold fM_write_135 at h
  refine lv_iinc (k := 2) (v := x4 + 1) (lv' := [(4, .int (x4 + 1)), (0, .ref a0), (1, .long l1)]) hx hb dM_write_135 hl rfl (by rw [show Int32.ofInt 1 = 1 from by decide]) (by decide) rfl (fun ls hl => ?_)
  refine lv_goto (tgt := 87) hx hb dM_write_138 (by decide) ?_
  exact hk87 a0 l1 (x4 + 1) _ _ _ _ _ _ h hR (lv_sub hl [1, 2, 0] rfl)
def fM_write_87 (n d : Nat) (C : Cx) : Nat → Nat → Int64 → Int32 → Mem → Rz
  | 0, _, _, _, _ => none
  | w + 1, a0, l1, x4, M => if 8 ≤ x4 then (if fits .boolean (.int 1) = true then (some (.inl (some (.int 1)), M)) else none) else (if (((l1 >>> ((8 * x4).toInt64 &&& 63)) &&& 255).toInt32) = 0 then (fM_write_135 n d C (fM_write_87 n d C w) a0 l1 x4 M) else (if mK M a0 = 5 then (rzD (mP M a0 2) fun a5 => (if mK M a5 = 22 then (if inA (mI M a0 1) (mL M a5) then (if fits .char (.int (((((l1 >>> ((8 * x4).toInt64 &&& 63)) &&& 255).toInt32).toUInt32 % 65536).toInt32)) = true then (rzM (setI M a5 (mI M a0 1).toNatClampNeg (((((l1 >>> ((8 * x4).toInt64 &&& 63)) &&& 255).toInt32).toUInt32 % 65536).toInt32)) fun M10 => (rzM (setI M10 a0 1 ((mI M10 a0 1) + 1)) fun M14 => (fM_write_135 n d C (fM_write_87 n d C w) a0 l1 x4 M14))) else none) else none) else none)) else none))
set_option maxRecDepth 100000 in
set_option maxHeartbeats 4000000 in
theorem tM_write_87 {n : Nat} (F : FX p s m meth c G R M0 d "HeadCountModel" bM_write 6 (some .boolean)) (hC : CBs l G d C) : ∀ (w : Nat) (a0 : Nat) (l1 : Int64) (x4 : Int32) (M : Mem) (H : Heap) (locs : List Loc) (cells slots : Nat) (ls : Array Slot), fM_write_87 n d C w a0 l1 x4 M = some (r, M') → RL G M0 M H locs cells slots → lv_has ls 6 [(0, .ref a0), (1, .long l1), (4, .int x4)] → W p l e R s m args below meth c H locs cells slots (CQ G below s M0 r M') (F0 m 87 ls []) := by
  obtain ⟨hx, hb, hml, hown, hrt, hlk, hex, hK, hRm⟩ := id F
  intro w
  induction w with
  | zero => intro a0 l1 x4 M H locs cells slots ls h; cases h
  | succ w ih =>
    intro a0 l1 x4 M H locs cells slots ls h hR hl
    rw [fM_write_87] at h
    refine lv_iload hx hb dM_write_87 (lv_at hl 2 rfl) ?_
    refine lv_bipush (v := 8) hx hb dM_write_89 (by decide) ?_
    refine lv_icmp_ge (tgt := 141) hx hb dM_write_91 (by decide) (fun c1 => ?_) (fun c1 => ?_)
    · replace h := rz_t c1 h
      refine lv_iconst (v := 1) hx hb dM_write_141 (by decide) ?_
      obtain ⟨c2, h⟩ := rz_chk h
      cases h
      exact rt_i hx hb hlk hrt (Or.inr (Or.inr rfl)) c2 hR dM_write_142
    · replace h := rz_f c1 h
      refine lv_lload_n hx hb dM_write_94 rfl (lv_at hl 1 rfl) ?_
      refine lv_bipush (v := 8) hx hb dM_write_95 (by decide) ?_
      refine lv_iload hx hb dM_write_97 (lv_at hl 2 rfl) ?_
      refine lv_imul hx hb dM_write_99 ?_
      refine lv_lshr hx hb dM_write_100 rfl ?_
      refine lv_ldc2 (v := 255) hx hb hown (hK.w kq_M_64 rfl args) dM_write_101 ?_
      refine lv_land hx hb dM_write_104 ?_
      refine lv_l2i hx hb dM_write_105 rfl ?_
      refine lv_istore (lv' := [(5, .int (((l1 >>> ((8 * x4).toInt64 &&& 63)) &&& 255).toInt32)), (0, .ref a0), (1, .long l1), (4, .int x4)]) hx hb dM_write_106 hl (by decide) rfl (fun ls hl => ?_)
      refine lv_iload hx hb dM_write_108 (lv_at hl 0 rfl) ?_
      refine lv_if_eq (tgt := 135) hx hb dM_write_110 (by decide) (fun c3 => ?_) (fun c3 => ?_)
      · replace h := rz_t c3 h
        exact tM_write_135 F hC ih a0 l1 x4 _ _ _ _ _ _ h hR (lv_sub hl [1, 2, 3] rfl)
      · replace h := rz_f c3 h
        refine lv_aload_n hx hb dM_write_113 rfl (lv_at hl 1 rfl) ?_
        obtain ⟨c4, h⟩ := rz_chk h
        refine rg_getP hx hb hown hK hR hk_M 2 (by decide) kf_M_7 rfl c4 dM_write_114 ?_
        refine lv_aload_n hx hb dM_write_117 rfl (lv_at hl 1 rfl) ?_
        refine rg_getI hx hb hown hK hR hk_M 1 (by decide) kf_M_66 rfl c4 dM_write_118 ?_
        refine lv_iload hx hb dM_write_121 (lv_at hl 0 rfl) ?_
        refine lv_i2c hx hb dM_write_123 rfl ?_
        obtain ⟨a5, e6, h⟩ := rz_d h
        rw [e6]
        obtain ⟨c7, h⟩ := rz_chk h
        obtain ⟨c8, h⟩ := rz_chk h
        obtain ⟨c9, h⟩ := rz_chk h
        obtain ⟨M10, q11, h⟩ := rz_m h
        refine rg_cast hx hb hK hR c7 c8 c9 dM_write_124 (fun H locs hR => ?_)
        rw [← q11] at hR
        have c12 : mK M10 a0 = 5 := by rw [q11]; exact c4
        have c13 : mK M10 a5 = 22 := by rw [q11]; exact c7
        refine lv_aload_n hx hb dM_write_125 rfl (lv_at hl 1 rfl) ?_
        refine lv_dup hx hb dM_write_126 rfl ?_
        refine rg_getI hx hb hown hK hR hk_M 1 (by decide) kf_M_66 rfl c12 dM_write_127 ?_
        refine lv_iconst (v := 1) hx hb dM_write_130 (by decide) ?_
        refine lv_iadd hx hb dM_write_131 ?_
        obtain ⟨M14, q15, h⟩ := rz_m h
        refine rg_putI hx hb hown hK hR hk_M 1 (by decide) kf_M_66 rfl rfl (ty := .int) (by decide +kernel) (Or.inl rfl) rfl c12 dM_write_132 (fun H locs hR => ?_)
        rw [← q15] at hR
        have c16 : mK M14 a0 = 5 := by rw [q15]; exact c12
        have c17 : mK M14 a5 = 22 := by rw [q15]; exact c13
        exact tM_write_135 F hC ih a0 l1 x4 _ _ _ _ _ _ h hR (lv_sub hl [1, 2, 3] rfl)
def fM_write_10 (n d : Nat) (C : Cx) : Nat → Nat → Int64 → Int32 → Int32 → Mem → Rz
  | 0, _, _, _, _, _ => none
  | w + 1, a0, l1, x3, x4, M => if 8 ≤ x4 then (if mK M a0 = 5 then (if ((mI M a0 1) + x3) ≤ 120 then (fM_write_87 n d C n a0 l1 0 M) else (if fits .boolean (.int 0) = true then (some (.inl (some (.int 0)), M)) else none)) else none) else (if (((l1 >>> ((8 * x4).toInt64 &&& 63)) &&& 255).toInt32) = 0 then (fM_write_52 n d C (fM_write_10 n d C w) a0 l1 x3 x4 (((l1 >>> ((8 * x4).toInt64 &&& 63)) &&& 255).toInt32) M) else (if (((l1 >>> ((8 * x4).toInt64 &&& 63)) &&& 255).toInt32) < 32 then (fM_write_50 n d C M) else (if (((l1 >>> ((8 * x4).toInt64 &&& 63)) &&& 255).toInt32) ≤ 126 then (fM_write_52 n d C (fM_write_10 n d C w) a0 l1 x3 x4 (((l1 >>> ((8 * x4).toInt64 &&& 63)) &&& 255).toInt32) M) else (fM_write_50 n d C M))))
set_option maxRecDepth 100000 in
set_option maxHeartbeats 4000000 in
theorem tM_write_10 {n : Nat} (F : FX p s m meth c G R M0 d "HeadCountModel" bM_write 6 (some .boolean)) (hC : CBs l G d C) : ∀ (w : Nat) (a0 : Nat) (l1 : Int64) (x3 : Int32) (x4 : Int32) (M : Mem) (H : Heap) (locs : List Loc) (cells slots : Nat) (ls : Array Slot), fM_write_10 n d C w a0 l1 x3 x4 M = some (r, M') → RL G M0 M H locs cells slots → lv_has ls 6 [(0, .ref a0), (1, .long l1), (3, .int x3), (4, .int x4)] → W p l e R s m args below meth c H locs cells slots (CQ G below s M0 r M') (F0 m 10 ls []) := by
  obtain ⟨hx, hb, hml, hown, hrt, hlk, hex, hK, hRm⟩ := id F
  intro w
  induction w with
  | zero => intro a0 l1 x3 x4 M H locs cells slots ls h; cases h
  | succ w ih =>
    intro a0 l1 x3 x4 M H locs cells slots ls h hR hl
    rw [fM_write_10] at h
    refine lv_iload hx hb dM_write_10 (lv_at hl 3 rfl) ?_
    refine lv_bipush (v := 8) hx hb dM_write_12 (by decide) ?_
    refine lv_icmp_ge (tgt := 71) hx hb dM_write_14 (by decide) (fun c1 => ?_) (fun c1 => ?_)
    · replace h := rz_t c1 h
      refine lv_aload_n hx hb dM_write_71 rfl (lv_at hl 0 rfl) ?_
      obtain ⟨c2, h⟩ := rz_chk h
      refine rg_getI hx hb hown hK hR hk_M 1 (by decide) kf_M_66 rfl c2 dM_write_72 ?_
      refine lv_iload_n hx hb dM_write_75 rfl (lv_at hl 2 rfl) ?_
      refine lv_iadd hx hb dM_write_76 ?_
      refine lv_bipush (v := 120) hx hb dM_write_77 (by decide) ?_
      refine lv_icmp_le (tgt := 84) hx hb dM_write_79 (by decide) (fun c3 => ?_) (fun c3 => ?_)
      · replace h := rz_t c3 h
        refine lv_iconst (v := 0) hx hb dM_write_84 (by decide) ?_
        refine lv_istore (lv' := [(4, .int 0), (0, .ref a0), (1, .long l1), (3, .int x3)]) hx hb dM_write_85 hl (by decide) rfl (fun ls hl => ?_)
        exact tM_write_87 F hC n a0 l1 0 _ _ _ _ _ _ h hR (lv_sub hl [1, 2, 0] rfl)
      · replace h := rz_f c3 h
        refine lv_iconst (v := 0) hx hb dM_write_82 (by decide) ?_
        obtain ⟨c4, h⟩ := rz_chk h
        cases h
        exact rt_i hx hb hlk hrt (Or.inr (Or.inr rfl)) c4 hR dM_write_83
    · replace h := rz_f c1 h
      refine lv_lload_n hx hb dM_write_17 rfl (lv_at hl 1 rfl) ?_
      refine lv_bipush (v := 8) hx hb dM_write_18 (by decide) ?_
      refine lv_iload hx hb dM_write_20 (lv_at hl 3 rfl) ?_
      refine lv_imul hx hb dM_write_22 ?_
      refine lv_lshr hx hb dM_write_23 rfl ?_
      refine lv_ldc2 (v := 255) hx hb hown (hK.w kq_M_64 rfl args) dM_write_24 ?_
      refine lv_land hx hb dM_write_27 ?_
      refine lv_l2i hx hb dM_write_28 rfl ?_
      refine lv_istore (lv' := [(5, .int (((l1 >>> ((8 * x4).toInt64 &&& 63)) &&& 255).toInt32)), (0, .ref a0), (1, .long l1), (3, .int x3), (4, .int x4)]) hx hb dM_write_29 hl (by decide) rfl (fun ls hl => ?_)
      refine lv_iload hx hb dM_write_31 (lv_at hl 0 rfl) ?_
      refine lv_if_eq (tgt := 52) hx hb dM_write_33 (by decide) (fun c5 => ?_) (fun c5 => ?_)
      · replace h := rz_t c5 h
        exact tM_write_52 F hC ih a0 l1 x3 x4 (((l1 >>> ((8 * x4).toInt64 &&& 63)) &&& 255).toInt32) _ _ _ _ _ _ h hR (lv_sub hl [1, 2, 3, 4, 0] rfl)
      · replace h := rz_f c5 h
        refine lv_iload hx hb dM_write_36 (lv_at hl 0 rfl) ?_
        refine lv_bipush (v := 32) hx hb dM_write_38 (by decide) ?_
        refine lv_icmp_lt (tgt := 50) hx hb dM_write_40 (by decide) (fun c6 => ?_) (fun c6 => ?_)
        · replace h := rz_t c6 h
          exact tM_write_50 F hC _ _ _ _ _ _ h hR (lv_sub hl [] rfl)
        · replace h := rz_f c6 h
          refine lv_iload hx hb dM_write_43 (lv_at hl 0 rfl) ?_
          refine lv_bipush (v := 126) hx hb dM_write_45 (by decide) ?_
          refine lv_icmp_le (tgt := 52) hx hb dM_write_47 (by decide) (fun c7 => ?_) (fun c7 => ?_)
          · replace h := rz_t c7 h
            exact tM_write_52 F hC ih a0 l1 x3 x4 (((l1 >>> ((8 * x4).toInt64 &&& 63)) &&& 255).toInt32) _ _ _ _ _ _ h hR (lv_sub hl [1, 2, 3, 4, 0] rfl)
          · replace h := rz_f c7 h
            exact tM_write_50 F hC _ _ _ _ _ _ h hR (lv_sub hl [] rfl)
def fM_write_0 (n d : Nat) (C : Cx) (a0 : Nat) (l1 : Int64) (M : Mem) : Rz := if mK M a0 = 5 then (rzM (setI M a0 0 0) fun M2 => (fM_write_10 n d C n a0 l1 0 0 M2)) else none
set_option maxRecDepth 100000 in
set_option maxHeartbeats 4000000 in
theorem tM_write_0 {n : Nat} (F : FX p s m meth c G R M0 d "HeadCountModel" bM_write 6 (some .boolean)) (hC : CBs l G d C) : ∀ (a0 : Nat) (l1 : Int64) (M : Mem) (H : Heap) (locs : List Loc) (cells slots : Nat) (ls : Array Slot), fM_write_0 n d C a0 l1 M = some (r, M') → RL G M0 M H locs cells slots → lv_has ls 6 [(0, .ref a0), (1, .long l1)] → W p l e R s m args below meth c H locs cells slots (CQ G below s M0 r M') (F0 m 0 ls []) := by
  obtain ⟨hx, hb, hml, hown, hrt, hlk, hex, hK, hRm⟩ := id F
  intro a0 l1 M H locs cells slots ls h hR hl
  unfold fM_write_0 at h
  refine lv_aload_n hx hb dM_write_0 rfl (lv_at hl 0 rfl) ?_
  refine lv_iconst (v := 0) hx hb dM_write_1 (by decide) ?_
  obtain ⟨c1, h⟩ := rz_chk h
  obtain ⟨M2, q3, h⟩ := rz_m h
  refine rg_putI hx hb hown hK hR hk_M 0 (by decide) kf_M_60 rfl rfl (ty := .int) (by decide +kernel) (Or.inl rfl) rfl c1 dM_write_2 (fun H locs hR => ?_)
  rw [← q3] at hR
  have c4 : mK M2 a0 = 5 := by rw [q3]; exact c1
  refine lv_iconst (v := 0) hx hb dM_write_5 (by decide) ?_
  refine lv_istore_n (lv' := [(3, .int 0), (0, .ref a0), (1, .long l1)]) hx hb dM_write_6 rfl hl (by decide) rfl (fun ls hl => ?_)
  refine lv_iconst (v := 0) hx hb dM_write_7 (by decide) ?_
  refine lv_istore (lv' := [(4, .int 0), (3, .int 0), (0, .ref a0), (1, .long l1)]) hx hb dM_write_8 hl (by decide) rfl (fun ls hl => ?_)
  exact tM_write_10 F hC n a0 l1 0 0 _ _ _ _ _ _ h hR (lv_sub hl [2, 3, 1, 0] rfl)
set_option maxRecDepth 100000 in
set_option maxHeartbeats 4000000 in
theorem sM_write {l : Launch} {G : Gx} {n d : Nat} {C : Cx} (hC : CBs l G d C) (a0 : Nat) (l1 : Int64) {M M' : Mem} {r : Option Value ⊕ Nat} (h : fM_write_0 n d C a0 l1 M = some (r, M')) : CB l G (d + 1) yM_write [.ref a0, .long l1] M r M' := by
  intro p e R s m below meth c hx hn hm hc hlk hK hR hcap hS hU hfr hlo hrc hrs
  obtain ⟨hb, hml, hrt, hex, hown⟩ := fx_of hn hm hc (hK.w mfM_write.2.2.1 rfl #[])
  have F : FX p s m meth c G R M d "HeadCountModel" bM_write 6 (some .boolean) := ⟨hx, hb, hml, hown, hrt, hlk, hex, hK, hfr, hlo, by rw [← hcap]; exact hrc, hrs⟩
  rw [hml]
  have hl := lv_entry ([.ref a0, .long l1]) (n := 6) (by simp [lg_sl, cat_rf, Value.category])
  rw [lg_entry_eq]
  generalize (lg_sl ([.ref a0, .long l1]) ++ List.replicate (6 - (lg_sl ([.ref a0, .long l1])).length) Slot.unset).toArray = ls at hl ⊢
  have hl : lv_has ls 6 [(0, .ref a0), (1, .long l1)] := by simpa [lv_args, cat_rf, Value.category] using hl
  exact tM_write_0 F hC a0 l1 _ _ _ _ _ _ h (RL.start hR hcap hS hU) (lv_sub hl [0, 1] rfl)
def fM_wipe_0 (n d : Nat) (C : Cx) (a0 : Nat) (M : Mem) : Rz := if mK M a0 = 5 then (rzM (setI M a0 0 0) fun M2 => (rzM (setI M2 a0 1 0) fun M5 => (some (.inl (some (.int (mI M2 a0 1))), M5)))) else none
set_option maxRecDepth 100000 in
set_option maxHeartbeats 4000000 in
theorem tM_wipe_0 {n : Nat} (F : FX p s m meth c G R M0 d "HeadCountModel" bM_wipe 2 (some .int)) (hC : CBs l G d C) : ∀ (a0 : Nat) (M : Mem) (H : Heap) (locs : List Loc) (cells slots : Nat) (ls : Array Slot), fM_wipe_0 n d C a0 M = some (r, M') → RL G M0 M H locs cells slots → lv_has ls 2 [(0, .ref a0)] → W p l e R s m args below meth c H locs cells slots (CQ G below s M0 r M') (F0 m 0 ls []) := by
  obtain ⟨hx, hb, hml, hown, hrt, hlk, hex, hK, hRm⟩ := id F
  intro a0 M H locs cells slots ls h hR hl
  unfold fM_wipe_0 at h
  refine lv_aload_n hx hb dM_wipe_0 rfl (lv_at hl 0 rfl) ?_
  refine lv_iconst (v := 0) hx hb dM_wipe_1 (by decide) ?_
  obtain ⟨c1, h⟩ := rz_chk h
  obtain ⟨M2, q3, h⟩ := rz_m h
  refine rg_putI hx hb hown hK hR hk_M 0 (by decide) kf_M_60 rfl rfl (ty := .int) (by decide +kernel) (Or.inl rfl) rfl c1 dM_wipe_2 (fun H locs hR => ?_)
  rw [← q3] at hR
  have c4 : mK M2 a0 = 5 := by rw [q3]; exact c1
  refine lv_aload_n hx hb dM_wipe_5 rfl (lv_at hl 0 rfl) ?_
  refine rg_getI hx hb hown hK hR hk_M 1 (by decide) kf_M_66 rfl c4 dM_wipe_6 ?_
  refine lv_istore_n (lv' := [(1, .int (mI M2 a0 1)), (0, .ref a0)]) hx hb dM_wipe_9 rfl hl (by decide) rfl (fun ls hl => ?_)
  refine lv_aload_n hx hb dM_wipe_10 rfl (lv_at hl 1 rfl) ?_
  refine lv_iconst (v := 0) hx hb dM_wipe_11 (by decide) ?_
  obtain ⟨M5, q6, h⟩ := rz_m h
  refine rg_putI hx hb hown hK hR hk_M 1 (by decide) kf_M_66 rfl rfl (ty := .int) (by decide +kernel) (Or.inl rfl) rfl c4 dM_wipe_12 (fun H locs hR => ?_)
  rw [← q6] at hR
  have c7 : mK M5 a0 = 5 := by rw [q6]; exact c4
  refine lv_iload_n hx hb dM_wipe_15 rfl (lv_at hl 0 rfl) ?_
  cases h
  exact rt_i hx hb hlk hrt (Or.inl rfl) rfl hR dM_wipe_16
set_option maxRecDepth 100000 in
set_option maxHeartbeats 4000000 in
theorem sM_wipe {l : Launch} {G : Gx} {n d : Nat} {C : Cx} (hC : CBs l G d C) (a0 : Nat) {M M' : Mem} {r : Option Value ⊕ Nat} (h : fM_wipe_0 n d C a0 M = some (r, M')) : CB l G (d + 1) yM_wipe [.ref a0] M r M' := by
  intro p e R s m below meth c hx hn hm hc hlk hK hR hcap hS hU hfr hlo hrc hrs
  obtain ⟨hb, hml, hrt, hex, hown⟩ := fx_of hn hm hc (hK.w mfM_wipe.2.2.1 rfl #[])
  have F : FX p s m meth c G R M d "HeadCountModel" bM_wipe 2 (some .int) := ⟨hx, hb, hml, hown, hrt, hlk, hex, hK, hfr, hlo, by rw [← hcap]; exact hrc, hrs⟩
  rw [hml]
  have hl := lv_entry ([.ref a0]) (n := 2) (by simp [lg_sl, cat_rf, Value.category])
  rw [lg_entry_eq]
  generalize (lg_sl ([.ref a0]) ++ List.replicate (2 - (lg_sl ([.ref a0])).length) Slot.unset).toArray = ls at hl ⊢
  have hl : lv_has ls 2 [(0, .ref a0)] := by simpa [lv_args, cat_rf, Value.category] using hl
  exact tM_wipe_0 F hC a0 _ _ _ _ _ _ h (RL.start hR hcap hS hU) (lv_sub hl [0] rfl)
def fM_length_0 (n d : Nat) (C : Cx) (a0 : Nat) (M : Mem) : Rz := if mK M a0 = 5 then (rzM (setI M a0 0 0) fun M2 => (some (.inl (some (.int (mI M2 a0 1))), M2))) else none
set_option maxRecDepth 100000 in
set_option maxHeartbeats 4000000 in
theorem tM_length_0 {n : Nat} (F : FX p s m meth c G R M0 d "HeadCountModel" bM_length 1 (some .int)) (hC : CBs l G d C) : ∀ (a0 : Nat) (M : Mem) (H : Heap) (locs : List Loc) (cells slots : Nat) (ls : Array Slot), fM_length_0 n d C a0 M = some (r, M') → RL G M0 M H locs cells slots → lv_has ls 1 [(0, .ref a0)] → W p l e R s m args below meth c H locs cells slots (CQ G below s M0 r M') (F0 m 0 ls []) := by
  obtain ⟨hx, hb, hml, hown, hrt, hlk, hex, hK, hRm⟩ := id F
  intro a0 M H locs cells slots ls h hR hl
  unfold fM_length_0 at h
  refine lv_aload_n hx hb dM_length_0 rfl (lv_at hl 0 rfl) ?_
  refine lv_iconst (v := 0) hx hb dM_length_1 (by decide) ?_
  obtain ⟨c1, h⟩ := rz_chk h
  obtain ⟨M2, q3, h⟩ := rz_m h
  refine rg_putI hx hb hown hK hR hk_M 0 (by decide) kf_M_60 rfl rfl (ty := .int) (by decide +kernel) (Or.inl rfl) rfl c1 dM_length_2 (fun H locs hR => ?_)
  rw [← q3] at hR
  have c4 : mK M2 a0 = 5 := by rw [q3]; exact c1
  refine lv_aload_n hx hb dM_length_5 rfl (lv_at hl 0 rfl) ?_
  refine rg_getI hx hb hown hK hR hk_M 1 (by decide) kf_M_66 rfl c4 dM_length_6 ?_
  cases h
  exact rt_i hx hb hlk hrt (Or.inl rfl) rfl hR dM_length_9
set_option maxRecDepth 100000 in
set_option maxHeartbeats 4000000 in
theorem sM_length {l : Launch} {G : Gx} {n d : Nat} {C : Cx} (hC : CBs l G d C) (a0 : Nat) {M M' : Mem} {r : Option Value ⊕ Nat} (h : fM_length_0 n d C a0 M = some (r, M')) : CB l G (d + 1) yM_length [.ref a0] M r M' := by
  intro p e R s m below meth c hx hn hm hc hlk hK hR hcap hS hU hfr hlo hrc hrs
  obtain ⟨hb, hml, hrt, hex, hown⟩ := fx_of hn hm hc (hK.w mfM_length.2.2.1 rfl #[])
  have F : FX p s m meth c G R M d "HeadCountModel" bM_length 1 (some .int) := ⟨hx, hb, hml, hown, hrt, hlk, hex, hK, hfr, hlo, by rw [← hcap]; exact hrc, hrs⟩
  rw [hml]
  have hl := lv_entry ([.ref a0]) (n := 1) (by simp [lg_sl, cat_rf, Value.category])
  rw [lg_entry_eq]
  generalize (lg_sl ([.ref a0]) ++ List.replicate (1 - (lg_sl ([.ref a0])).length) Slot.unset).toArray = ls at hl ⊢
  have hl : lv_has ls 1 [(0, .ref a0)] := by simpa [lv_args, cat_rf, Value.category] using hl
  exact tM_length_0 F hC a0 _ _ _ _ _ _ h (RL.start hR hcap hS hU) (lv_sub hl [0] rfl)
def fM_deeper_0 (n d : Nat) (C : Cx) (a0 : Nat) (x1 : Int32) (M : Mem) : Rz := if mK M a0 = 5 then (if (mI M a0 24) < 12 then (rzM (setI M a0 24 ((mI M a0 24) + 1)) fun M3 => (rzC (C 75 [.ref a0, .int x1] M3) fun v6 M7 => (rzV v6 (if fits .boolean (.int 1) = true then (some (.inl (some (.int 1)), M7)) else none)))) else (if fits .boolean (.int 0) = true then (some (.inl (some (.int 0)), M)) else none)) else none
set_option maxRecDepth 100000 in
set_option maxHeartbeats 4000000 in
theorem tM_deeper_0 {n : Nat} (F : FX p s m meth c G R M0 d "HeadCountModel" bM_deeper 2 (some .boolean)) (hC : CBs l G d C) : ∀ (a0 : Nat) (x1 : Int32) (M : Mem) (H : Heap) (locs : List Loc) (cells slots : Nat) (ls : Array Slot), fM_deeper_0 n d C a0 x1 M = some (r, M') → RL G M0 M H locs cells slots → lv_has ls 2 [(0, .ref a0), (1, .int x1)] → W p l e R s m args below meth c H locs cells slots (CQ G below s M0 r M') (F0 m 0 ls []) := by
  obtain ⟨hx, hb, hml, hown, hrt, hlk, hex, hK, hRm⟩ := id F
  intro a0 x1 M H locs cells slots ls h hR hl
  unfold fM_deeper_0 at h
  refine lv_aload_n hx hb dM_deeper_0 rfl (lv_at hl 0 rfl) ?_
  obtain ⟨c1, h⟩ := rz_chk h
  refine rg_getI hx hb hown hK hR hk_M 24 (by decide) kf_M_75 rfl c1 dM_deeper_1 ?_
  refine lv_bipush (v := 12) hx hb dM_deeper_4 (by decide) ?_
  refine lv_icmp_lt (tgt := 11) hx hb dM_deeper_6 (by decide) (fun c2 => ?_) (fun c2 => ?_)
  · replace h := rz_t c2 h
    refine lv_aload_n hx hb dM_deeper_11 rfl (lv_at hl 0 rfl) ?_
    refine lv_dup hx hb dM_deeper_12 rfl ?_
    refine rg_getI hx hb hown hK hR hk_M 24 (by decide) kf_M_75 rfl c1 dM_deeper_13 ?_
    refine lv_iconst (v := 1) hx hb dM_deeper_16 (by decide) ?_
    refine lv_iadd hx hb dM_deeper_17 ?_
    obtain ⟨M3, q4, h⟩ := rz_m h
    refine rg_putI hx hb hown hK hR hk_M 24 (by decide) kf_M_75 rfl rfl (ty := .int) (by decide +kernel) (Or.inl rfl) rfl c1 dM_deeper_18 (fun H locs hR => ?_)
    rw [← q4] at hR
    have c5 : mK M3 a0 = 5 := by rw [q4]; exact c1
    refine lv_aload_n hx hb dM_deeper_21 rfl (lv_at hl 0 rfl) ?_
    refine lv_iload_n hx hb dM_deeper_22 rfl (lv_at hl 1 rfl) ?_
    obtain ⟨q9, M7, h8, h⟩ := rz_c h
    refine rc_V (rest := []) (As := [.int x1]) hx hb (hl.1.trans hml.symm) hown hK hR hRm mfM_push kl_M_78 hk_M rfl rfl c5 (by simp [cat_rf, Value.category]) (hC 75 _ _ _ _ h8) dM_deeper_23 (fun v1 H locs cells slots ev hR => ?_) (fun x1 q1 ce1 H locs cells slots ex hR g1 g2 g3 => ?_)
    · rcases h with ⟨v6, ev2, h⟩ | ⟨e2, ee2, -⟩
      · cases ev.symm.trans ev2
        obtain ⟨rfl, h⟩ := rz_v h
        dsimp only [Option.toList, List.cons_append, List.nil_append]
        refine lv_iconst (v := 1) hx hb dM_deeper_26 (by decide) ?_
        obtain ⟨c10, h⟩ := rz_chk h
        cases h
        exact rt_i hx hb hlk hrt (Or.inr (Or.inr rfl)) c10 hR dM_deeper_27
      · cases ev.symm.trans ee2
    · rcases h with ⟨v2, ev2, -⟩ | ⟨e2, ee2, h⟩
      · cases ex.symm.trans ev2
      · cases ex.symm.trans ee2
        cases h
        exact rt_x hlk hex hR g1 g2 g3
  · replace h := rz_f c2 h
    refine lv_iconst (v := 0) hx hb dM_deeper_9 (by decide) ?_
    obtain ⟨c11, h⟩ := rz_chk h
    cases h
    exact rt_i hx hb hlk hrt (Or.inr (Or.inr rfl)) c11 hR dM_deeper_10
set_option maxRecDepth 100000 in
set_option maxHeartbeats 4000000 in
theorem sM_deeper {l : Launch} {G : Gx} {n d : Nat} {C : Cx} (hC : CBs l G d C) (a0 : Nat) (x1 : Int32) {M M' : Mem} {r : Option Value ⊕ Nat} (h : fM_deeper_0 n d C a0 x1 M = some (r, M')) : CB l G (d + 1) yM_deeper [.ref a0, .int x1] M r M' := by
  intro p e R s m below meth c hx hn hm hc hlk hK hR hcap hS hU hfr hlo hrc hrs
  obtain ⟨hb, hml, hrt, hex, hown⟩ := fx_of hn hm hc (hK.w mfM_deeper.2.2.1 rfl #[])
  have F : FX p s m meth c G R M d "HeadCountModel" bM_deeper 2 (some .boolean) := ⟨hx, hb, hml, hown, hrt, hlk, hex, hK, hfr, hlo, by rw [← hcap]; exact hrc, hrs⟩
  rw [hml]
  have hl := lv_entry ([.ref a0, .int x1]) (n := 2) (by simp [lg_sl, cat_rf, Value.category])
  rw [lg_entry_eq]
  generalize (lg_sl ([.ref a0, .int x1]) ++ List.replicate (2 - (lg_sl ([.ref a0, .int x1])).length) Slot.unset).toArray = ls at hl ⊢
  have hl : lv_has ls 2 [(0, .ref a0), (1, .int x1)] := by simpa [lv_args, cat_rf, Value.category] using hl
  exact tM_deeper_0 F hC a0 x1 _ _ _ _ _ _ h (RL.start hR hcap hS hU) (lv_sub hl [0, 1] rfl)
def fM_push_0 (n d : Nat) (C : Cx) (a0 : Nat) (x1 : Int32) (M : Mem) : Rz := if mK M a0 = 5 then (rzD (mP M a0 20) fun a2 => (if mK M a2 = 21 then (if inA (mI M a0 19) (mL M a2) then (rzM (setI M a2 (mI M a0 19).toNatClampNeg x1) fun M6 => (rzM (setI M6 a0 19 ((mI M6 a0 19) + 1)) fun M10 => (some (.inl none, M10)))) else none) else none)) else none
set_option maxRecDepth 100000 in
set_option maxHeartbeats 4000000 in
theorem tM_push_0 {n : Nat} (F : FX p s m meth c G R M0 d "HeadCountModel" bM_push 2 none) (hC : CBs l G d C) : ∀ (a0 : Nat) (x1 : Int32) (M : Mem) (H : Heap) (locs : List Loc) (cells slots : Nat) (ls : Array Slot), fM_push_0 n d C a0 x1 M = some (r, M') → RL G M0 M H locs cells slots → lv_has ls 2 [(0, .ref a0), (1, .int x1)] → W p l e R s m args below meth c H locs cells slots (CQ G below s M0 r M') (F0 m 0 ls []) := by
  obtain ⟨hx, hb, hml, hown, hrt, hlk, hex, hK, hRm⟩ := id F
  intro a0 x1 M H locs cells slots ls h hR hl
  unfold fM_push_0 at h
  refine lv_aload_n hx hb dM_push_0 rfl (lv_at hl 0 rfl) ?_
  obtain ⟨c1, h⟩ := rz_chk h
  refine rg_getP hx hb hown hK hR hk_M 20 (by decide) kf_M_39 rfl c1 dM_push_1 ?_
  refine lv_aload_n hx hb dM_push_4 rfl (lv_at hl 0 rfl) ?_
  refine rg_getI hx hb hown hK hR hk_M 19 (by decide) kf_M_72 rfl c1 dM_push_5 ?_
  refine lv_iload_n hx hb dM_push_8 rfl (lv_at hl 1 rfl) ?_
  obtain ⟨a2, e3, h⟩ := rz_d h
  rw [e3]
  obtain ⟨c4, h⟩ := rz_chk h
  obtain ⟨c5, h⟩ := rz_chk h
  obtain ⟨M6, q7, h⟩ := rz_m h
  refine rg_iast hx hb hK hR c4 c5 dM_push_9 (fun H locs hR => ?_)
  rw [← q7] at hR
  have c8 : mK M6 a0 = 5 := by rw [q7]; exact c1
  have c9 : mK M6 a2 = 21 := by rw [q7]; exact c4
  refine lv_aload_n hx hb dM_push_10 rfl (lv_at hl 0 rfl) ?_
  refine lv_dup hx hb dM_push_11 rfl ?_
  refine rg_getI hx hb hown hK hR hk_M 19 (by decide) kf_M_72 rfl c8 dM_push_12 ?_
  refine lv_iconst (v := 1) hx hb dM_push_15 (by decide) ?_
  refine lv_iadd hx hb dM_push_16 ?_
  obtain ⟨M10, q11, h⟩ := rz_m h
  refine rg_putI hx hb hown hK hR hk_M 19 (by decide) kf_M_72 rfl rfl (ty := .int) (by decide +kernel) (Or.inl rfl) rfl c8 dM_push_17 (fun H locs hR => ?_)
  rw [← q11] at hR
  have c12 : mK M10 a0 = 5 := by rw [q11]; exact c8
  have c13 : mK M10 a2 = 21 := by rw [q11]; exact c9
  cases h
  exact rt_v hx hb hlk hrt hR dM_push_20
set_option maxRecDepth 100000 in
set_option maxHeartbeats 4000000 in
theorem sM_push {l : Launch} {G : Gx} {n d : Nat} {C : Cx} (hC : CBs l G d C) (a0 : Nat) (x1 : Int32) {M M' : Mem} {r : Option Value ⊕ Nat} (h : fM_push_0 n d C a0 x1 M = some (r, M')) : CB l G (d + 1) yM_push [.ref a0, .int x1] M r M' := by
  intro p e R s m below meth c hx hn hm hc hlk hK hR hcap hS hU hfr hlo hrc hrs
  obtain ⟨hb, hml, hrt, hex, hown⟩ := fx_of hn hm hc (hK.w mfM_push.2.2.1 rfl #[])
  have F : FX p s m meth c G R M d "HeadCountModel" bM_push 2 none := ⟨hx, hb, hml, hown, hrt, hlk, hex, hK, hfr, hlo, by rw [← hcap]; exact hrc, hrs⟩
  rw [hml]
  have hl := lv_entry ([.ref a0, .int x1]) (n := 2) (by simp [lg_sl, cat_rf, Value.category])
  rw [lg_entry_eq]
  generalize (lg_sl ([.ref a0, .int x1]) ++ List.replicate (2 - (lg_sl ([.ref a0, .int x1])).length) Slot.unset).toArray = ls at hl ⊢
  have hl : lv_has ls 2 [(0, .ref a0), (1, .int x1)] := by simpa [lv_args, cat_rf, Value.category] using hl
  exact tM_push_0 F hC a0 x1 _ _ _ _ _ _ h (RL.start hR hcap hS hU) (lv_sub hl [0, 1] rfl)
def fM_isDigit_17 (n d : Nat) (C : Cx) (xs0 : Int32) (M : Mem) : Rz := if fits .boolean (.int xs0) = true then (some (.inl (some (.int xs0)), M)) else none
set_option maxRecDepth 100000 in
set_option maxHeartbeats 4000000 in
theorem tM_isDigit_17 {n : Nat} (F : FX p s m meth c G R M0 d "HeadCountModel" bM_isDigit 1 (some .boolean)) (hC : CBs l G d C) : ∀ (xs0 : Int32) (M : Mem) (H : Heap) (locs : List Loc) (cells slots : Nat) (ls : Array Slot), fM_isDigit_17 n d C xs0 M = some (r, M') → RL G M0 M H locs cells slots → lv_has ls 1 [] → W p l e R s m args below meth c H locs cells slots (CQ G below s M0 r M') (F0 m 17 ls [.int xs0]) := by
  obtain ⟨hx, hb, hml, hown, hrt, hlk, hex, hK, hRm⟩ := id F
  intro xs0 M H locs cells slots ls h hR hl
  unfold fM_isDigit_17 at h
  obtain ⟨c1, h⟩ := rz_chk h
  cases h
  exact rt_i hx hb hlk hrt (Or.inr (Or.inr rfl)) c1 hR dM_isDigit_17
def fM_isDigit_16 (n d : Nat) (C : Cx) (M : Mem) : Rz := fM_isDigit_17 n d C 0 M
set_option maxRecDepth 100000 in
set_option maxHeartbeats 4000000 in
theorem tM_isDigit_16 {n : Nat} (F : FX p s m meth c G R M0 d "HeadCountModel" bM_isDigit 1 (some .boolean)) (hC : CBs l G d C) : ∀ (M : Mem) (H : Heap) (locs : List Loc) (cells slots : Nat) (ls : Array Slot), fM_isDigit_16 n d C M = some (r, M') → RL G M0 M H locs cells slots → lv_has ls 1 [] → W p l e R s m args below meth c H locs cells slots (CQ G below s M0 r M') (F0 m 16 ls []) := by
  obtain ⟨hx, hb, hml, hown, hrt, hlk, hex, hK, hRm⟩ := id F
  intro M H locs cells slots ls h hR hl
  unfold fM_isDigit_16 at h
  refine lv_iconst (v := 0) hx hb dM_isDigit_16 (by decide) ?_
  exact tM_isDigit_17 F hC 0 _ _ _ _ _ _ h hR (lv_sub hl [] rfl)
def fM_isDigit_0 (n d : Nat) (C : Cx) (x0 : Int32) (M : Mem) : Rz := if x0 < 48 then (fM_isDigit_16 n d C M) else (if 57 < x0 then (fM_isDigit_16 n d C M) else (fM_isDigit_17 n d C 1 M))
set_option maxRecDepth 100000 in
set_option maxHeartbeats 4000000 in
theorem tM_isDigit_0 {n : Nat} (F : FX p s m meth c G R M0 d "HeadCountModel" bM_isDigit 1 (some .boolean)) (hC : CBs l G d C) : ∀ (x0 : Int32) (M : Mem) (H : Heap) (locs : List Loc) (cells slots : Nat) (ls : Array Slot), fM_isDigit_0 n d C x0 M = some (r, M') → RL G M0 M H locs cells slots → lv_has ls 1 [(0, .int x0)] → W p l e R s m args below meth c H locs cells slots (CQ G below s M0 r M') (F0 m 0 ls []) := by
  obtain ⟨hx, hb, hml, hown, hrt, hlk, hex, hK, hRm⟩ := id F
  intro x0 M H locs cells slots ls h hR hl
  unfold fM_isDigit_0 at h
  refine lv_iload_n hx hb dM_isDigit_0 rfl (lv_at hl 0 rfl) ?_
  refine lv_bipush (v := 48) hx hb dM_isDigit_1 (by decide) ?_
  refine lv_icmp_lt (tgt := 16) hx hb dM_isDigit_3 (by decide) (fun c1 => ?_) (fun c1 => ?_)
  · replace h := rz_t c1 h
    exact tM_isDigit_16 F hC _ _ _ _ _ _ h hR (lv_sub hl [] rfl)
  · replace h := rz_f c1 h
    refine lv_iload_n hx hb dM_isDigit_6 rfl (lv_at hl 0 rfl) ?_
    refine lv_bipush (v := 57) hx hb dM_isDigit_7 (by decide) ?_
    refine lv_icmp_gt (tgt := 16) hx hb dM_isDigit_9 (by decide) (fun c2 => ?_) (fun c2 => ?_)
    · replace h := rz_t c2 h
      exact tM_isDigit_16 F hC _ _ _ _ _ _ h hR (lv_sub hl [] rfl)
    · replace h := rz_f c2 h
      refine lv_iconst (v := 1) hx hb dM_isDigit_12 (by decide) ?_
      refine lv_goto (tgt := 17) hx hb dM_isDigit_13 (by decide) ?_
      exact tM_isDigit_17 F hC 1 _ _ _ _ _ _ h hR (lv_sub hl [] rfl)
set_option maxRecDepth 100000 in
set_option maxHeartbeats 4000000 in
theorem sM_isDigit {l : Launch} {G : Gx} {n d : Nat} {C : Cx} (hC : CBs l G d C) (x0 : Int32) {M M' : Mem} {r : Option Value ⊕ Nat} (h : fM_isDigit_0 n d C x0 M = some (r, M')) : CB l G (d + 1) yM_isDigit [.int x0] M r M' := by
  intro p e R s m below meth c hx hn hm hc hlk hK hR hcap hS hU hfr hlo hrc hrs
  obtain ⟨hb, hml, hrt, hex, hown⟩ := fx_of hn hm hc (hK.w mfM_isDigit.2.2.1 rfl #[])
  have F : FX p s m meth c G R M d "HeadCountModel" bM_isDigit 1 (some .boolean) := ⟨hx, hb, hml, hown, hrt, hlk, hex, hK, hfr, hlo, by rw [← hcap]; exact hrc, hrs⟩
  rw [hml]
  have hl := lv_entry ([.int x0]) (n := 1) (by simp [lg_sl, cat_rf, Value.category])
  rw [lg_entry_eq]
  generalize (lg_sl ([.int x0]) ++ List.replicate (1 - (lg_sl ([.int x0])).length) Slot.unset).toArray = ls at hl ⊢
  have hl : lv_has ls 1 [(0, .int x0)] := by simpa [lv_args, cat_rf, Value.category] using hl
  exact tM_isDigit_0 F hC x0 _ _ _ _ _ _ h (RL.start hR hcap hS hU) (lv_sub hl [0] rfl)
def fM_variableOf_41 (n d : Nat) (C : Cx) (xs0 : Int32) (M : Mem) : Rz := some (.inl (some (.int xs0)), M)
set_option maxRecDepth 100000 in
set_option maxHeartbeats 4000000 in
theorem tM_variableOf_41 {n : Nat} (F : FX p s m meth c G R M0 d "HeadCountModel" bM_variableOf 1 (some .int)) (hC : CBs l G d C) : ∀ (xs0 : Int32) (M : Mem) (H : Heap) (locs : List Loc) (cells slots : Nat) (ls : Array Slot), fM_variableOf_41 n d C xs0 M = some (r, M') → RL G M0 M H locs cells slots → lv_has ls 1 [] → W p l e R s m args below meth c H locs cells slots (CQ G below s M0 r M') (F0 m 41 ls [.int xs0]) := by
  obtain ⟨hx, hb, hml, hown, hrt, hlk, hex, hK, hRm⟩ := id F
  intro xs0 M H locs cells slots ls h hR hl
  unfold fM_variableOf_41 at h
  cases h
  exact rt_i hx hb hlk hrt (Or.inl rfl) rfl hR dM_variableOf_41
def fM_variableOf_40 (n d : Nat) (C : Cx) (M : Mem) : Rz := fM_variableOf_41 n d C ((-1)) M
set_option maxRecDepth 100000 in
set_option maxHeartbeats 4000000 in
theorem tM_variableOf_40 {n : Nat} (F : FX p s m meth c G R M0 d "HeadCountModel" bM_variableOf 1 (some .int)) (hC : CBs l G d C) : ∀ (M : Mem) (H : Heap) (locs : List Loc) (cells slots : Nat) (ls : Array Slot), fM_variableOf_40 n d C M = some (r, M') → RL G M0 M H locs cells slots → lv_has ls 1 [] → W p l e R s m args below meth c H locs cells slots (CQ G below s M0 r M') (F0 m 40 ls []) := by
  obtain ⟨hx, hb, hml, hown, hrt, hlk, hex, hK, hRm⟩ := id F
  intro M H locs cells slots ls h hR hl
  unfold fM_variableOf_40 at h
  refine lv_iconst (v := (-1)) hx hb dM_variableOf_40 (by decide) ?_
  exact tM_variableOf_41 F hC ((-1)) _ _ _ _ _ _ h hR (lv_sub hl [] rfl)
def fM_variableOf_19 (n d : Nat) (C : Cx) (x0 : Int32) (M : Mem) : Rz := if x0 < 88 then (fM_variableOf_40 n d C M) else (if 90 < x0 then (fM_variableOf_40 n d C M) else (fM_variableOf_41 n d C ((x0 - 88) + 3) M))
set_option maxRecDepth 100000 in
set_option maxHeartbeats 4000000 in
theorem tM_variableOf_19 {n : Nat} (F : FX p s m meth c G R M0 d "HeadCountModel" bM_variableOf 1 (some .int)) (hC : CBs l G d C) : ∀ (x0 : Int32) (M : Mem) (H : Heap) (locs : List Loc) (cells slots : Nat) (ls : Array Slot), fM_variableOf_19 n d C x0 M = some (r, M') → RL G M0 M H locs cells slots → lv_has ls 1 [(0, .int x0)] → W p l e R s m args below meth c H locs cells slots (CQ G below s M0 r M') (F0 m 19 ls []) := by
  obtain ⟨hx, hb, hml, hown, hrt, hlk, hex, hK, hRm⟩ := id F
  intro x0 M H locs cells slots ls h hR hl
  unfold fM_variableOf_19 at h
  refine lv_iload_n hx hb dM_variableOf_19 rfl (lv_at hl 0 rfl) ?_
  refine lv_bipush (v := 88) hx hb dM_variableOf_20 (by decide) ?_
  refine lv_icmp_lt (tgt := 40) hx hb dM_variableOf_22 (by decide) (fun c1 => ?_) (fun c1 => ?_)
  · replace h := rz_t c1 h
    exact tM_variableOf_40 F hC _ _ _ _ _ _ h hR (lv_sub hl [] rfl)
  · replace h := rz_f c1 h
    refine lv_iload_n hx hb dM_variableOf_25 rfl (lv_at hl 0 rfl) ?_
    refine lv_bipush (v := 90) hx hb dM_variableOf_26 (by decide) ?_
    refine lv_icmp_gt (tgt := 40) hx hb dM_variableOf_28 (by decide) (fun c2 => ?_) (fun c2 => ?_)
    · replace h := rz_t c2 h
      exact tM_variableOf_40 F hC _ _ _ _ _ _ h hR (lv_sub hl [] rfl)
    · replace h := rz_f c2 h
      refine lv_iload_n hx hb dM_variableOf_31 rfl (lv_at hl 0 rfl) ?_
      refine lv_bipush (v := 88) hx hb dM_variableOf_32 (by decide) ?_
      refine lv_isub hx hb dM_variableOf_34 ?_
      refine lv_iconst (v := 3) hx hb dM_variableOf_35 (by decide) ?_
      refine lv_iadd hx hb dM_variableOf_36 ?_
      refine lv_goto (tgt := 41) hx hb dM_variableOf_37 (by decide) ?_
      exact tM_variableOf_41 F hC ((x0 - 88) + 3) _ _ _ _ _ _ h hR (lv_sub hl [] rfl)
def fM_variableOf_0 (n d : Nat) (C : Cx) (x0 : Int32) (M : Mem) : Rz := if x0 < 105 then (fM_variableOf_19 n d C x0 M) else (if 107 < x0 then (fM_variableOf_19 n d C x0 M) else (fM_variableOf_41 n d C (x0 - 105) M))
set_option maxRecDepth 100000 in
set_option maxHeartbeats 4000000 in
theorem tM_variableOf_0 {n : Nat} (F : FX p s m meth c G R M0 d "HeadCountModel" bM_variableOf 1 (some .int)) (hC : CBs l G d C) : ∀ (x0 : Int32) (M : Mem) (H : Heap) (locs : List Loc) (cells slots : Nat) (ls : Array Slot), fM_variableOf_0 n d C x0 M = some (r, M') → RL G M0 M H locs cells slots → lv_has ls 1 [(0, .int x0)] → W p l e R s m args below meth c H locs cells slots (CQ G below s M0 r M') (F0 m 0 ls []) := by
  obtain ⟨hx, hb, hml, hown, hrt, hlk, hex, hK, hRm⟩ := id F
  intro x0 M H locs cells slots ls h hR hl
  unfold fM_variableOf_0 at h
  refine lv_iload_n hx hb dM_variableOf_0 rfl (lv_at hl 0 rfl) ?_
  refine lv_bipush (v := 105) hx hb dM_variableOf_1 (by decide) ?_
  refine lv_icmp_lt (tgt := 19) hx hb dM_variableOf_3 (by decide) (fun c1 => ?_) (fun c1 => ?_)
  · replace h := rz_t c1 h
    exact tM_variableOf_19 F hC x0 _ _ _ _ _ _ h hR (lv_sub hl [0] rfl)
  · replace h := rz_f c1 h
    refine lv_iload_n hx hb dM_variableOf_6 rfl (lv_at hl 0 rfl) ?_
    refine lv_bipush (v := 107) hx hb dM_variableOf_7 (by decide) ?_
    refine lv_icmp_gt (tgt := 19) hx hb dM_variableOf_9 (by decide) (fun c2 => ?_) (fun c2 => ?_)
    · replace h := rz_t c2 h
      exact tM_variableOf_19 F hC x0 _ _ _ _ _ _ h hR (lv_sub hl [0] rfl)
    · replace h := rz_f c2 h
      refine lv_iload_n hx hb dM_variableOf_12 rfl (lv_at hl 0 rfl) ?_
      refine lv_bipush (v := 105) hx hb dM_variableOf_13 (by decide) ?_
      refine lv_isub hx hb dM_variableOf_15 ?_
      refine lv_goto (tgt := 41) hx hb dM_variableOf_16 (by decide) ?_
      exact tM_variableOf_41 F hC (x0 - 105) _ _ _ _ _ _ h hR (lv_sub hl [] rfl)
set_option maxRecDepth 100000 in
set_option maxHeartbeats 4000000 in
theorem sM_variableOf {l : Launch} {G : Gx} {n d : Nat} {C : Cx} (hC : CBs l G d C) (x0 : Int32) {M M' : Mem} {r : Option Value ⊕ Nat} (h : fM_variableOf_0 n d C x0 M = some (r, M')) : CB l G (d + 1) yM_variableOf [.int x0] M r M' := by
  intro p e R s m below meth c hx hn hm hc hlk hK hR hcap hS hU hfr hlo hrc hrs
  obtain ⟨hb, hml, hrt, hex, hown⟩ := fx_of hn hm hc (hK.w mfM_variableOf.2.2.1 rfl #[])
  have F : FX p s m meth c G R M d "HeadCountModel" bM_variableOf 1 (some .int) := ⟨hx, hb, hml, hown, hrt, hlk, hex, hK, hfr, hlo, by rw [← hcap]; exact hrc, hrs⟩
  rw [hml]
  have hl := lv_entry ([.int x0]) (n := 1) (by simp [lg_sl, cat_rf, Value.category])
  rw [lg_entry_eq]
  generalize (lg_sl ([.int x0]) ++ List.replicate (1 - (lg_sl ([.int x0])).length) Slot.unset).toArray = ls at hl ⊢
  have hl : lv_has ls 1 [(0, .int x0)] := by simpa [lv_args, cat_rf, Value.category] using hl
  exact tM_variableOf_0 F hC x0 _ _ _ _ _ _ h (RL.start hR hcap hS hU) (lv_sub hl [0] rfl)
def fM_emit_0 (n d : Nat) (C : Cx) (a0 : Nat) (x1 : Int32) (x2 : Int32) (M : Mem) : Rz := if mK M a0 = 5 then (rzD (mP M a0 14) fun a2 => (if mK M a2 = 21 then (if inA (mI M a0 12) (mL M a2) then (rzM (setI M a2 (mI M a0 12).toNatClampNeg x1) fun M6 => (rzD (mP M6 a0 15) fun a10 => (if mK M6 a10 = 21 then (if inA (mI M6 a0 12) (mL M6 a10) then (rzM (setI M6 a10 (mI M6 a0 12).toNatClampNeg x2) fun M14 => (rzM (setI M14 a0 12 ((mI M14 a0 12) + 1)) fun M19 => (some (.inl none, M19)))) else none) else none))) else none) else none)) else none
set_option maxRecDepth 100000 in
set_option maxHeartbeats 4000000 in
theorem tM_emit_0 {n : Nat} (F : FX p s m meth c G R M0 d "HeadCountModel" bM_emit 3 none) (hC : CBs l G d C) : ∀ (a0 : Nat) (x1 : Int32) (x2 : Int32) (M : Mem) (H : Heap) (locs : List Loc) (cells slots : Nat) (ls : Array Slot), fM_emit_0 n d C a0 x1 x2 M = some (r, M') → RL G M0 M H locs cells slots → lv_has ls 3 [(0, .ref a0), (1, .int x1), (2, .int x2)] → W p l e R s m args below meth c H locs cells slots (CQ G below s M0 r M') (F0 m 0 ls []) := by
  obtain ⟨hx, hb, hml, hown, hrt, hlk, hex, hK, hRm⟩ := id F
  intro a0 x1 x2 M H locs cells slots ls h hR hl
  unfold fM_emit_0 at h
  refine lv_aload_n hx hb dM_emit_0 rfl (lv_at hl 0 rfl) ?_
  obtain ⟨c1, h⟩ := rz_chk h
  refine rg_getP hx hb hown hK hR hk_M 14 (by decide) kf_M_27 rfl c1 dM_emit_1 ?_
  refine lv_aload_n hx hb dM_emit_4 rfl (lv_at hl 0 rfl) ?_
  refine rg_getI hx hb hown hK hR hk_M 12 (by decide) kf_M_69 rfl c1 dM_emit_5 ?_
  refine lv_iload_n hx hb dM_emit_8 rfl (lv_at hl 1 rfl) ?_
  obtain ⟨a2, e3, h⟩ := rz_d h
  rw [e3]
  obtain ⟨c4, h⟩ := rz_chk h
  obtain ⟨c5, h⟩ := rz_chk h
  obtain ⟨M6, q7, h⟩ := rz_m h
  refine rg_iast hx hb hK hR c4 c5 dM_emit_9 (fun H locs hR => ?_)
  rw [← q7] at hR
  have c8 : mK M6 a0 = 5 := by rw [q7]; exact c1
  have c9 : mK M6 a2 = 21 := by rw [q7]; exact c4
  refine lv_aload_n hx hb dM_emit_10 rfl (lv_at hl 0 rfl) ?_
  refine rg_getP hx hb hown hK hR hk_M 15 (by decide) kf_M_30 rfl c8 dM_emit_11 ?_
  refine lv_aload_n hx hb dM_emit_14 rfl (lv_at hl 0 rfl) ?_
  refine rg_getI hx hb hown hK hR hk_M 12 (by decide) kf_M_69 rfl c8 dM_emit_15 ?_
  refine lv_iload_n hx hb dM_emit_18 rfl (lv_at hl 2 rfl) ?_
  obtain ⟨a10, e11, h⟩ := rz_d h
  rw [e11]
  obtain ⟨c12, h⟩ := rz_chk h
  obtain ⟨c13, h⟩ := rz_chk h
  obtain ⟨M14, q15, h⟩ := rz_m h
  refine rg_iast hx hb hK hR c12 c13 dM_emit_19 (fun H locs hR => ?_)
  rw [← q15] at hR
  have c16 : mK M14 a0 = 5 := by rw [q15]; exact c8
  have c17 : mK M14 a2 = 21 := by rw [q15]; exact c9
  have c18 : mK M14 a10 = 21 := by rw [q15]; exact c12
  refine lv_aload_n hx hb dM_emit_20 rfl (lv_at hl 0 rfl) ?_
  refine lv_dup hx hb dM_emit_21 rfl ?_
  refine rg_getI hx hb hown hK hR hk_M 12 (by decide) kf_M_69 rfl c16 dM_emit_22 ?_
  refine lv_iconst (v := 1) hx hb dM_emit_25 (by decide) ?_
  refine lv_iadd hx hb dM_emit_26 ?_
  obtain ⟨M19, q20, h⟩ := rz_m h
  refine rg_putI hx hb hown hK hR hk_M 12 (by decide) kf_M_69 rfl rfl (ty := .int) (by decide +kernel) (Or.inl rfl) rfl c16 dM_emit_27 (fun H locs hR => ?_)
  rw [← q20] at hR
  have c21 : mK M19 a0 = 5 := by rw [q20]; exact c16
  have c22 : mK M19 a2 = 21 := by rw [q20]; exact c17
  have c23 : mK M19 a10 = 21 := by rw [q20]; exact c18
  cases h
  exact rt_v hx hb hlk hrt hR dM_emit_30
set_option maxRecDepth 100000 in
set_option maxHeartbeats 4000000 in
theorem sM_emit {l : Launch} {G : Gx} {n d : Nat} {C : Cx} (hC : CBs l G d C) (a0 : Nat) (x1 : Int32) (x2 : Int32) {M M' : Mem} {r : Option Value ⊕ Nat} (h : fM_emit_0 n d C a0 x1 x2 M = some (r, M')) : CB l G (d + 1) yM_emit [.ref a0, .int x1, .int x2] M r M' := by
  intro p e R s m below meth c hx hn hm hc hlk hK hR hcap hS hU hfr hlo hrc hrs
  obtain ⟨hb, hml, hrt, hex, hown⟩ := fx_of hn hm hc (hK.w mfM_emit.2.2.1 rfl #[])
  have F : FX p s m meth c G R M d "HeadCountModel" bM_emit 3 none := ⟨hx, hb, hml, hown, hrt, hlk, hex, hK, hfr, hlo, by rw [← hcap]; exact hrc, hrs⟩
  rw [hml]
  have hl := lv_entry ([.ref a0, .int x1, .int x2]) (n := 3) (by simp [lg_sl, cat_rf, Value.category])
  rw [lg_entry_eq]
  generalize (lg_sl ([.ref a0, .int x1, .int x2]) ++ List.replicate (3 - (lg_sl ([.ref a0, .int x1, .int x2])).length) Slot.unset).toArray = ls at hl ⊢
  have hl : lv_has ls 3 [(0, .ref a0), (1, .int x1), (2, .int x2)] := by simpa [lv_args, cat_rf, Value.category] using hl
  exact tM_emit_0 F hC a0 x1 x2 _ _ _ _ _ _ h (RL.start hR hcap hS hU) (lv_sub hl [0, 1, 2] rfl)
def fM_settle_16 (n d : Nat) (C : Cx) (k0 : Nat → Int32 → Int32 → Mem → Rz) (a0 : Nat) (x1 : Int32) (x2 : Int32) (M : Mem) : Rz := if mK M a0 = 5 then (rzM (setI M a0 19 ((mI M a0 19) - 1)) fun M2 => (rzD (mP M2 a0 20) fun a5 => (if mK M2 a5 = 21 then (if inA (mI M2 a0 19) (mL M2 a5) then (rzC (C 81 [.ref a0, .int (mI M2 a5 (mI M2 a0 19).toNatClampNeg), .int 0] M2) fun v9 M10 => (rzV v9 (k0 a0 x1 x2 M10))) else none) else none))) else none
set_option maxRecDepth 100000 in
set_option maxHeartbeats 4000000 in
theorem tM_settle_16 {n : Nat} {k0 : Nat → Int32 → Int32 → Mem → Rz} (F : FX p s m meth c G R M0 d "HeadCountModel" bM_settle 3 none) (hC : CBs l G d C) (hk0 : ∀ (a0 : Nat) (x1 : Int32) (x2 : Int32) (M : Mem) (H : Heap) (locs : List Loc) (cells slots : Nat) (ls : Array Slot), k0 a0 x1 x2 M = some (r, M') → RL G M0 M H locs cells slots → lv_has ls 3 [(0, .ref a0), (1, .int x1), (2, .int x2)] → W p l e R s m args below meth c H locs cells slots (CQ G below s M0 r M') (F0 m 0 ls [])) : ∀ (a0 : Nat) (x1 : Int32) (x2 : Int32) (M : Mem) (H : Heap) (locs : List Loc) (cells slots : Nat) (ls : Array Slot), fM_settle_16 n d C k0 a0 x1 x2 M = some (r, M') → RL G M0 M H locs cells slots → lv_has ls 3 [(0, .ref a0), (1, .int x1), (2, .int x2)] → W p l e R s m args below meth c H locs cells slots (CQ G below s M0 r M') (F0 m 16 ls []) := by
  obtain ⟨hx, hb, hml, hown, hrt, hlk, hex, hK, hRm⟩ := id F
  intro a0 x1 x2 M H locs cells slots ls h hR hl
  unfold fM_settle_16 at h
  refine lv_aload_n hx hb dM_settle_16 rfl (lv_at hl 0 rfl) ?_
  refine lv_dup hx hb dM_settle_17 rfl ?_
  obtain ⟨c1, h⟩ := rz_chk h
  refine rg_getI hx hb hown hK hR hk_M 19 (by decide) kf_M_72 rfl c1 dM_settle_18 ?_
  refine lv_iconst (v := 1) hx hb dM_settle_21 (by decide) ?_
  refine lv_isub hx hb dM_settle_22 ?_
  obtain ⟨M2, q3, h⟩ := rz_m h
  refine rg_putI hx hb hown hK hR hk_M 19 (by decide) kf_M_72 rfl rfl (ty := .int) (by decide +kernel) (Or.inl rfl) rfl c1 dM_settle_23 (fun H locs hR => ?_)
  rw [← q3] at hR
  have c4 : mK M2 a0 = 5 := by rw [q3]; exact c1
  refine lv_aload_n hx hb dM_settle_26 rfl (lv_at hl 0 rfl) ?_
  refine lv_aload_n hx hb dM_settle_27 rfl (lv_at hl 0 rfl) ?_
  refine rg_getP hx hb hown hK hR hk_M 20 (by decide) kf_M_39 rfl c4 dM_settle_28 ?_
  refine lv_aload_n hx hb dM_settle_31 rfl (lv_at hl 0 rfl) ?_
  refine rg_getI hx hb hown hK hR hk_M 19 (by decide) kf_M_72 rfl c4 dM_settle_32 ?_
  obtain ⟨a5, e6, h⟩ := rz_d h
  rw [e6]
  obtain ⟨c7, h⟩ := rz_chk h
  obtain ⟨c8, h⟩ := rz_chk h
  refine rg_iald hx hb hK hR c7 c8 dM_settle_35 ?_
  refine lv_iconst (v := 0) hx hb dM_settle_36 (by decide) ?_
  obtain ⟨q12, M10, h11, h⟩ := rz_c h
  refine rc_V (rest := []) (As := [.int (mI M2 a5 (mI M2 a0 19).toNatClampNeg), .int 0]) hx hb (hl.1.trans hml.symm) hown hK hR hRm mfM_emit kl_M_86 hk_M rfl rfl c4 (by simp [cat_rf, Value.category]) (hC 81 _ _ _ _ h11) dM_settle_37 (fun v1 H locs cells slots ev hR => ?_) (fun x1 q1 ce1 H locs cells slots ex hR g1 g2 g3 => ?_)
  · rcases h with ⟨v9, ev2, h⟩ | ⟨e2, ee2, -⟩
    · cases ev.symm.trans ev2
      obtain ⟨rfl, h⟩ := rz_v h
      dsimp only [Option.toList, List.cons_append, List.nil_append]
      refine lv_goto (tgt := 0) hx hb dM_settle_40 (by decide) ?_
      exact hk0 a0 x1 x2 _ _ _ _ _ _ h hR (lv_sub hl [0, 1, 2] rfl)
    · cases ev.symm.trans ee2
  · rcases h with ⟨v2, ev2, -⟩ | ⟨e2, ee2, h⟩
    · cases ex.symm.trans ev2
    · cases ex.symm.trans ee2
      cases h
      exact rt_x hlk hex hR g1 g2 g3
def fM_settle_0 (n d : Nat) (C : Cx) : Nat → Nat → Int32 → Int32 → Mem → Rz
  | 0, _, _, _, _ => none
  | w + 1, a0, x1, x2, M => if mK M a0 = 5 then (rzC (C 85 [.ref a0] M) fun v2 M3 => (rzI v2 fun x6 => (if x6 = x1 then (fM_settle_16 n d C (fM_settle_0 n d C w) a0 x1 x2 M3) else (if mK M3 a0 = 5 then (rzC (C 85 [.ref a0] M3) fun v9 M10 => (rzI v9 fun x13 => (if x13 = x2 then (fM_settle_16 n d C (fM_settle_0 n d C w) a0 x1 x2 M10) else (some (.inl none, M10))))) else none)))) else none
set_option maxRecDepth 100000 in
set_option maxHeartbeats 4000000 in
theorem tM_settle_0 {n : Nat} (F : FX p s m meth c G R M0 d "HeadCountModel" bM_settle 3 none) (hC : CBs l G d C) : ∀ (w : Nat) (a0 : Nat) (x1 : Int32) (x2 : Int32) (M : Mem) (H : Heap) (locs : List Loc) (cells slots : Nat) (ls : Array Slot), fM_settle_0 n d C w a0 x1 x2 M = some (r, M') → RL G M0 M H locs cells slots → lv_has ls 3 [(0, .ref a0), (1, .int x1), (2, .int x2)] → W p l e R s m args below meth c H locs cells slots (CQ G below s M0 r M') (F0 m 0 ls []) := by
  obtain ⟨hx, hb, hml, hown, hrt, hlk, hex, hK, hRm⟩ := id F
  intro w
  induction w with
  | zero => intro a0 x1 x2 M H locs cells slots ls h; cases h
  | succ w ih =>
    intro a0 x1 x2 M H locs cells slots ls h hR hl
    rw [fM_settle_0] at h
    refine lv_aload_n hx hb dM_settle_0 rfl (lv_at hl 0 rfl) ?_
    obtain ⟨c1, h⟩ := rz_chk h
    obtain ⟨q5, M3, h4, h⟩ := rz_c h
    refine rc_V (rest := []) (As := []) hx hb (hl.1.trans hml.symm) hown hK hR hRm mfM_upper kl_M_82 hk_M rfl rfl c1 (by simp [cat_rf, Value.category]) (hC 85 _ _ _ _ h4) dM_settle_1 (fun v1 H locs cells slots ev hR => ?_) (fun x1 q1 ce1 H locs cells slots ex hR g1 g2 g3 => ?_)
    · rcases h with ⟨v2, ev2, h⟩ | ⟨e2, ee2, -⟩
      · cases ev.symm.trans ev2
        obtain ⟨x6, rfl, h⟩ := rz_i h
        dsimp only [Option.toList, List.cons_append, List.nil_append]
        refine lv_iload_n hx hb dM_settle_4 rfl (lv_at hl 1 rfl) ?_
        refine lv_icmp_eq (tgt := 16) hx hb dM_settle_5 (by decide) (fun c7 => ?_) (fun c7 => ?_)
        · replace h := rz_t c7 h
          exact tM_settle_16 F hC ih a0 x1 x2 _ _ _ _ _ _ h hR (lv_sub hl [0, 1, 2] rfl)
        · replace h := rz_f c7 h
          refine lv_aload_n hx hb dM_settle_8 rfl (lv_at hl 0 rfl) ?_
          obtain ⟨c8, h⟩ := rz_chk h
          obtain ⟨q12, M10, h11, h⟩ := rz_c h
          refine rc_V (rest := []) (As := []) hx hb (hl.1.trans hml.symm) hown hK hR hRm mfM_upper kl_M_82 hk_M rfl rfl c8 (by simp [cat_rf, Value.category]) (hC 85 _ _ _ _ h11) dM_settle_9 (fun v1 H locs cells slots ev hR => ?_) (fun x1 q1 ce1 H locs cells slots ex hR g1 g2 g3 => ?_)
          · rcases h with ⟨v9, ev2, h⟩ | ⟨e2, ee2, -⟩
            · cases ev.symm.trans ev2
              obtain ⟨x13, rfl, h⟩ := rz_i h
              dsimp only [Option.toList, List.cons_append, List.nil_append]
              refine lv_iload_n hx hb dM_settle_12 rfl (lv_at hl 2 rfl) ?_
              refine lv_icmp_ne (tgt := 43) hx hb dM_settle_13 (by decide) (fun c14 => ?_) (fun c14 => ?_)
              · replace h := rz_f c14 h
                cases h
                exact rt_v hx hb hlk hrt hR dM_settle_43
              · replace h := rz_t c14 h
                exact tM_settle_16 F hC ih a0 x1 x2 _ _ _ _ _ _ h hR (lv_sub hl [0, 1, 2] rfl)
            · cases ev.symm.trans ee2
          · rcases h with ⟨v2, ev2, -⟩ | ⟨e2, ee2, h⟩
            · cases ex.symm.trans ev2
            · cases ex.symm.trans ee2
              cases h
              exact rt_x hlk hex hR g1 g2 g3
      · cases ev.symm.trans ee2
    · rcases h with ⟨v2, ev2, -⟩ | ⟨e2, ee2, h⟩
      · cases ex.symm.trans ev2
      · cases ex.symm.trans ee2
        cases h
        exact rt_x hlk hex hR g1 g2 g3
set_option maxRecDepth 100000 in
set_option maxHeartbeats 4000000 in
theorem sM_settle {l : Launch} {G : Gx} {n d : Nat} {C : Cx} (hC : CBs l G d C) (a0 : Nat) (x1 : Int32) (x2 : Int32) {M M' : Mem} {r : Option Value ⊕ Nat} (h : fM_settle_0 n d C n a0 x1 x2 M = some (r, M')) : CB l G (d + 1) yM_settle [.ref a0, .int x1, .int x2] M r M' := by
  intro p e R s m below meth c hx hn hm hc hlk hK hR hcap hS hU hfr hlo hrc hrs
  obtain ⟨hb, hml, hrt, hex, hown⟩ := fx_of hn hm hc (hK.w mfM_settle.2.2.1 rfl #[])
  have F : FX p s m meth c G R M d "HeadCountModel" bM_settle 3 none := ⟨hx, hb, hml, hown, hrt, hlk, hex, hK, hfr, hlo, by rw [← hcap]; exact hrc, hrs⟩
  rw [hml]
  have hl := lv_entry ([.ref a0, .int x1, .int x2]) (n := 3) (by simp [lg_sl, cat_rf, Value.category])
  rw [lg_entry_eq]
  generalize (lg_sl ([.ref a0, .int x1, .int x2]) ++ List.replicate (3 - (lg_sl ([.ref a0, .int x1, .int x2])).length) Slot.unset).toArray = ls at hl ⊢
  have hl : lv_has ls 3 [(0, .ref a0), (1, .int x1), (2, .int x2)] := by simpa [lv_args, cat_rf, Value.category] using hl
  exact tM_settle_0 F hC n a0 x1 x2 _ _ _ _ _ _ h (RL.start hR hcap hS hU) (lv_sub hl [0, 1, 2] rfl)
def fM_upper_22 (n d : Nat) (C : Cx) (xs0 : Int32) (M : Mem) : Rz := some (.inl (some (.int xs0)), M)
set_option maxRecDepth 100000 in
set_option maxHeartbeats 4000000 in
theorem tM_upper_22 {n : Nat} (F : FX p s m meth c G R M0 d "HeadCountModel" bM_upper 1 (some .int)) (hC : CBs l G d C) : ∀ (xs0 : Int32) (M : Mem) (H : Heap) (locs : List Loc) (cells slots : Nat) (ls : Array Slot), fM_upper_22 n d C xs0 M = some (r, M') → RL G M0 M H locs cells slots → lv_has ls 1 [] → W p l e R s m args below meth c H locs cells slots (CQ G below s M0 r M') (F0 m 22 ls [.int xs0]) := by
  obtain ⟨hx, hb, hml, hown, hrt, hlk, hex, hK, hRm⟩ := id F
  intro xs0 M H locs cells slots ls h hR hl
  unfold fM_upper_22 at h
  cases h
  exact rt_i hx hb hlk hrt (Or.inl rfl) rfl hR dM_upper_22
def fM_upper_0 (n d : Nat) (C : Cx) (a0 : Nat) (M : Mem) : Rz := if mK M a0 = 5 then (if (mI M a0 19) = 0 then (fM_upper_22 n d C 0 M) else (rzD (mP M a0 20) fun a3 => (if mK M a3 = 21 then (if inA ((mI M a0 19) - 1) (mL M a3) then (fM_upper_22 n d C (mI M a3 ((mI M a0 19) - 1).toNatClampNeg) M) else none) else none))) else none
set_option maxRecDepth 100000 in
set_option maxHeartbeats 4000000 in
theorem tM_upper_0 {n : Nat} (F : FX p s m meth c G R M0 d "HeadCountModel" bM_upper 1 (some .int)) (hC : CBs l G d C) : ∀ (a0 : Nat) (M : Mem) (H : Heap) (locs : List Loc) (cells slots : Nat) (ls : Array Slot), fM_upper_0 n d C a0 M = some (r, M') → RL G M0 M H locs cells slots → lv_has ls 1 [(0, .ref a0)] → W p l e R s m args below meth c H locs cells slots (CQ G below s M0 r M') (F0 m 0 ls []) := by
  obtain ⟨hx, hb, hml, hown, hrt, hlk, hex, hK, hRm⟩ := id F
  intro a0 M H locs cells slots ls h hR hl
  unfold fM_upper_0 at h
  refine lv_aload_n hx hb dM_upper_0 rfl (lv_at hl 0 rfl) ?_
  obtain ⟨c1, h⟩ := rz_chk h
  refine rg_getI hx hb hown hK hR hk_M 19 (by decide) kf_M_72 rfl c1 dM_upper_1 ?_
  refine lv_if_ne (tgt := 11) hx hb dM_upper_4 (by decide) (fun c2 => ?_) (fun c2 => ?_)
  · replace h := rz_f c2 h
    refine lv_aload_n hx hb dM_upper_11 rfl (lv_at hl 0 rfl) ?_
    refine rg_getP hx hb hown hK hR hk_M 20 (by decide) kf_M_39 rfl c1 dM_upper_12 ?_
    refine lv_aload_n hx hb dM_upper_15 rfl (lv_at hl 0 rfl) ?_
    refine rg_getI hx hb hown hK hR hk_M 19 (by decide) kf_M_72 rfl c1 dM_upper_16 ?_
    refine lv_iconst (v := 1) hx hb dM_upper_19 (by decide) ?_
    refine lv_isub hx hb dM_upper_20 ?_
    obtain ⟨a3, e4, h⟩ := rz_d h
    rw [e4]
    obtain ⟨c5, h⟩ := rz_chk h
    obtain ⟨c6, h⟩ := rz_chk h
    refine rg_iald hx hb hK hR c5 c6 dM_upper_21 ?_
    exact tM_upper_22 F hC (mI M a3 ((mI M a0 19) - 1).toNatClampNeg) _ _ _ _ _ _ h hR (lv_sub hl [] rfl)
  · replace h := rz_t c2 h
    refine lv_iconst (v := 0) hx hb dM_upper_7 (by decide) ?_
    refine lv_goto (tgt := 22) hx hb dM_upper_8 (by decide) ?_
    exact tM_upper_22 F hC 0 _ _ _ _ _ _ h hR (lv_sub hl [] rfl)
set_option maxRecDepth 100000 in
set_option maxHeartbeats 4000000 in
theorem sM_upper {l : Launch} {G : Gx} {n d : Nat} {C : Cx} (hC : CBs l G d C) (a0 : Nat) {M M' : Mem} {r : Option Value ⊕ Nat} (h : fM_upper_0 n d C a0 M = some (r, M')) : CB l G (d + 1) yM_upper [.ref a0] M r M' := by
  intro p e R s m below meth c hx hn hm hc hlk hK hR hcap hS hU hfr hlo hrc hrs
  obtain ⟨hb, hml, hrt, hex, hown⟩ := fx_of hn hm hc (hK.w mfM_upper.2.2.1 rfl #[])
  have F : FX p s m meth c G R M d "HeadCountModel" bM_upper 1 (some .int) := ⟨hx, hb, hml, hown, hrt, hlk, hex, hK, hfr, hlo, by rw [← hcap]; exact hrc, hrs⟩
  rw [hml]
  have hl := lv_entry ([.ref a0]) (n := 1) (by simp [lg_sl, cat_rf, Value.category])
  rw [lg_entry_eq]
  generalize (lg_sl ([.ref a0]) ++ List.replicate (1 - (lg_sl ([.ref a0])).length) Slot.unset).toArray = ls at hl ⊢
  have hl : lv_has ls 1 [(0, .ref a0)] := by simpa [lv_args, cat_rf, Value.category] using hl
  exact tM_upper_0 F hC a0 _ _ _ _ _ _ h (RL.start hR hcap hS hU) (lv_sub hl [0] rfl)
def fM_close_0 (n d : Nat) (C : Cx) (a0 : Nat) (M : Mem) : Rz := if mK M a0 = 5 then (rzM (setI M a0 19 ((mI M a0 19) - 1)) fun M2 => (rzM (setI M2 a0 24 ((mI M2 a0 24) - 1)) fun M5 => (some (.inl none, M5)))) else none
set_option maxRecDepth 100000 in
set_option maxHeartbeats 4000000 in
theorem tM_close_0 {n : Nat} (F : FX p s m meth c G R M0 d "HeadCountModel" bM_close 1 none) (hC : CBs l G d C) : ∀ (a0 : Nat) (M : Mem) (H : Heap) (locs : List Loc) (cells slots : Nat) (ls : Array Slot), fM_close_0 n d C a0 M = some (r, M') → RL G M0 M H locs cells slots → lv_has ls 1 [(0, .ref a0)] → W p l e R s m args below meth c H locs cells slots (CQ G below s M0 r M') (F0 m 0 ls []) := by
  obtain ⟨hx, hb, hml, hown, hrt, hlk, hex, hK, hRm⟩ := id F
  intro a0 M H locs cells slots ls h hR hl
  unfold fM_close_0 at h
  refine lv_aload_n hx hb dM_close_0 rfl (lv_at hl 0 rfl) ?_
  refine lv_dup hx hb dM_close_1 rfl ?_
  obtain ⟨c1, h⟩ := rz_chk h
  refine rg_getI hx hb hown hK hR hk_M 19 (by decide) kf_M_72 rfl c1 dM_close_2 ?_
  refine lv_iconst (v := 1) hx hb dM_close_5 (by decide) ?_
  refine lv_isub hx hb dM_close_6 ?_
  obtain ⟨M2, q3, h⟩ := rz_m h
  refine rg_putI hx hb hown hK hR hk_M 19 (by decide) kf_M_72 rfl rfl (ty := .int) (by decide +kernel) (Or.inl rfl) rfl c1 dM_close_7 (fun H locs hR => ?_)
  rw [← q3] at hR
  have c4 : mK M2 a0 = 5 := by rw [q3]; exact c1
  refine lv_aload_n hx hb dM_close_10 rfl (lv_at hl 0 rfl) ?_
  refine lv_dup hx hb dM_close_11 rfl ?_
  refine rg_getI hx hb hown hK hR hk_M 24 (by decide) kf_M_75 rfl c4 dM_close_12 ?_
  refine lv_iconst (v := 1) hx hb dM_close_15 (by decide) ?_
  refine lv_isub hx hb dM_close_16 ?_
  obtain ⟨M5, q6, h⟩ := rz_m h
  refine rg_putI hx hb hown hK hR hk_M 24 (by decide) kf_M_75 rfl rfl (ty := .int) (by decide +kernel) (Or.inl rfl) rfl c4 dM_close_17 (fun H locs hR => ?_)
  rw [← q6] at hR
  have c7 : mK M5 a0 = 5 := by rw [q6]; exact c4
  cases h
  exact rt_v hx hb hlk hrt hR dM_close_20
set_option maxRecDepth 100000 in
set_option maxHeartbeats 4000000 in
theorem sM_close {l : Launch} {G : Gx} {n d : Nat} {C : Cx} (hC : CBs l G d C) (a0 : Nat) {M M' : Mem} {r : Option Value ⊕ Nat} (h : fM_close_0 n d C a0 M = some (r, M')) : CB l G (d + 1) yM_close [.ref a0] M r M' := by
  intro p e R s m below meth c hx hn hm hc hlk hK hR hcap hS hU hfr hlo hrc hrs
  obtain ⟨hb, hml, hrt, hex, hown⟩ := fx_of hn hm hc (hK.w mfM_close.2.2.1 rfl #[])
  have F : FX p s m meth c G R M d "HeadCountModel" bM_close 1 none := ⟨hx, hb, hml, hown, hrt, hlk, hex, hK, hfr, hlo, by rw [← hcap]; exact hrc, hrs⟩
  rw [hml]
  have hl := lv_entry ([.ref a0]) (n := 1) (by simp [lg_sl, cat_rf, Value.category])
  rw [lg_entry_eq]
  generalize (lg_sl ([.ref a0]) ++ List.replicate (1 - (lg_sl ([.ref a0])).length) Slot.unset).toArray = ls at hl ⊢
  have hl : lv_has ls 1 [(0, .ref a0)] := by simpa [lv_args, cat_rf, Value.category] using hl
  exact tM_close_0 F hC a0 _ _ _ _ _ _ h (RL.start hR hcap hS hU) (lv_sub hl [0] rfl)
end
