theorem dM_init_0 : decode bM_init 0 = .ok (.aload_n 0, 1) := by decide +kernel
theorem dM_init_1 : decode bM_init 1 = .ok (.invokespecial 1, 3) := by decide +kernel
theorem dM_init_4 : decode bM_init 4 = .ok (.aload_n 0, 1) := by decide +kernel
theorem dM_init_5 : decode bM_init 5 = .ok (.bipush 120, 2) := by decide +kernel
theorem dM_init_7 : decode bM_init 7 = .ok (.newarray .char, 2) := by decide +kernel
theorem dM_init_9 : decode bM_init 9 = .ok (.putfield 7, 3) := by decide +kernel
theorem dM_init_12 : decode bM_init 12 = .ok (.aload_n 0, 1) := by decide +kernel
theorem dM_init_13 : decode bM_init 13 = .ok (.sipush 260, 3) := by decide +kernel
theorem dM_init_16 : decode bM_init 16 = .ok (.newarray .int, 2) := by decide +kernel
theorem dM_init_18 : decode bM_init 18 = .ok (.putfield 13, 3) := by decide +kernel
theorem dM_init_21 : decode bM_init 21 = .ok (.aload_n 0, 1) := by decide +kernel
theorem dM_init_22 : decode bM_init 22 = .ok (.sipush 260, 3) := by decide +kernel
theorem dM_init_25 : decode bM_init 25 = .ok (.newarray .int, 2) := by decide +kernel
theorem dM_init_27 : decode bM_init 27 = .ok (.putfield 17, 3) := by decide +kernel
theorem dM_init_30 : decode bM_init 30 = .ok (.aload_n 0, 1) := by decide +kernel
theorem dM_init_31 : decode bM_init 31 = .ok (.iconst 4, 1) := by decide +kernel
theorem dM_init_32 : decode bM_init 32 = .ok (.newarray .boolean, 2) := by decide +kernel
theorem dM_init_34 : decode bM_init 34 = .ok (.putfield 20, 3) := by decide +kernel
theorem dM_init_37 : decode bM_init 37 = .ok (.aload_n 0, 1) := by decide +kernel
theorem dM_init_38 : decode bM_init 38 = .ok (.iconst 4, 1) := by decide +kernel
theorem dM_init_39 : decode bM_init 39 = .ok (.newarray .boolean, 2) := by decide +kernel
theorem dM_init_41 : decode bM_init 41 = .ok (.putfield 24, 3) := by decide +kernel
theorem dM_init_44 : decode bM_init 44 = .ok (.aload_n 0, 1) := by decide +kernel
theorem dM_init_45 : decode bM_init 45 = .ok (.sipush 260, 3) := by decide +kernel
theorem dM_init_48 : decode bM_init 48 = .ok (.newarray .int, 2) := by decide +kernel
theorem dM_init_50 : decode bM_init 50 = .ok (.putfield 27, 3) := by decide +kernel
theorem dM_init_53 : decode bM_init 53 = .ok (.aload_n 0, 1) := by decide +kernel
theorem dM_init_54 : decode bM_init 54 = .ok (.sipush 260, 3) := by decide +kernel
theorem dM_init_57 : decode bM_init 57 = .ok (.newarray .int, 2) := by decide +kernel
theorem dM_init_59 : decode bM_init 59 = .ok (.putfield 30, 3) := by decide +kernel
theorem dM_init_62 : decode bM_init 62 = .ok (.aload_n 0, 1) := by decide +kernel
theorem dM_init_63 : decode bM_init 63 = .ok (.iconst 4, 1) := by decide +kernel
theorem dM_init_64 : decode bM_init 64 = .ok (.newarray .boolean, 2) := by decide +kernel
theorem dM_init_66 : decode bM_init 66 = .ok (.putfield 33, 3) := by decide +kernel
theorem dM_init_69 : decode bM_init 69 = .ok (.aload_n 0, 1) := by decide +kernel
theorem dM_init_70 : decode bM_init 70 = .ok (.iconst 4, 1) := by decide +kernel
theorem dM_init_71 : decode bM_init 71 = .ok (.newarray .boolean, 2) := by decide +kernel
theorem dM_init_73 : decode bM_init 73 = .ok (.putfield 36, 3) := by decide +kernel
theorem dM_init_76 : decode bM_init 76 = .ok (.aload_n 0, 1) := by decide +kernel
theorem dM_init_77 : decode bM_init 77 = .ok (.sipush 140, 3) := by decide +kernel
theorem dM_init_80 : decode bM_init 80 = .ok (.newarray .int, 2) := by decide +kernel
theorem dM_init_82 : decode bM_init 82 = .ok (.putfield 39, 3) := by decide +kernel
theorem dM_init_85 : decode bM_init 85 = .ok (.aload_n 0, 1) := by decide +kernel
theorem dM_init_86 : decode bM_init 86 = .ok (.sipush 140, 3) := by decide +kernel
theorem dM_init_89 : decode bM_init 89 = .ok (.newarray .int, 2) := by decide +kernel
theorem dM_init_91 : decode bM_init 91 = .ok (.putfield 42, 3) := by decide +kernel
theorem dM_init_94 : decode bM_init 94 = .ok (.aload_n 0, 1) := by decide +kernel
theorem dM_init_95 : decode bM_init 95 = .ok (.sipush 140, 3) := by decide +kernel
theorem dM_init_98 : decode bM_init 98 = .ok (.newarray .int, 2) := by decide +kernel
theorem dM_init_100 : decode bM_init 100 = .ok (.putfield 45, 3) := by decide +kernel
theorem dM_init_103 : decode bM_init 103 = .ok (.aload_n 0, 1) := by decide +kernel
theorem dM_init_104 : decode bM_init 104 = .ok (.bipush 6, 2) := by decide +kernel
theorem dM_init_106 : decode bM_init 106 = .ok (.newarray .int, 2) := by decide +kernel
theorem dM_init_108 : decode bM_init 108 = .ok (.putfield 48, 3) := by decide +kernel
theorem dM_init_111 : decode bM_init 111 = .ok (.aload_n 0, 1) := by decide +kernel
theorem dM_init_112 : decode bM_init 112 = .ok (.iconst 4, 1) := by decide +kernel
theorem dM_init_113 : decode bM_init 113 = .ok (.newarray .int, 2) := by decide +kernel
theorem dM_init_115 : decode bM_init 115 = .ok (.putfield 51, 3) := by decide +kernel
theorem dM_init_118 : decode bM_init 118 = .ok (.aload_n 0, 1) := by decide +kernel
theorem dM_init_119 : decode bM_init 119 = .ok (.iconst 4, 1) := by decide +kernel
theorem dM_init_120 : decode bM_init 120 = .ok (.newarray .int, 2) := by decide +kernel
theorem dM_init_122 : decode bM_init 122 = .ok (.putfield 54, 3) := by decide +kernel
theorem dM_init_125 : decode bM_init 125 = .ok (.aload_n 0, 1) := by decide +kernel
theorem dM_init_126 : decode bM_init 126 = .ok (.sipush 260, 3) := by decide +kernel
theorem dM_init_129 : decode bM_init 129 = .ok (.newarray .int, 2) := by decide +kernel
theorem dM_init_131 : decode bM_init 131 = .ok (.putfield 57, 3) := by decide +kernel
theorem dM_init_134 : decode bM_init 134 = .ok (.return_, 1) := by decide +kernel
theorem dM_thrown_0 : decode bM_thrown 0 = .ok (.aload_n 0, 1) := by decide +kernel
theorem dM_thrown_1 : decode bM_thrown 1 = .ok (.getfield 60, 3) := by decide +kernel
theorem dM_thrown_4 : decode bM_thrown 4 = .ok (.ireturn, 1) := by decide +kernel
theorem dM_write_0 : decode bM_write 0 = .ok (.aload_n 0, 1) := by decide +kernel
theorem dM_write_1 : decode bM_write 1 = .ok (.iconst 0, 1) := by decide +kernel
theorem dM_write_2 : decode bM_write 2 = .ok (.putfield 60, 3) := by decide +kernel
theorem dM_write_5 : decode bM_write 5 = .ok (.iconst 0, 1) := by decide +kernel
theorem dM_write_6 : decode bM_write 6 = .ok (.istore_n 3, 1) := by decide +kernel
theorem dM_write_7 : decode bM_write 7 = .ok (.iconst 0, 1) := by decide +kernel
theorem dM_write_8 : decode bM_write 8 = .ok (.istore 4, 2) := by decide +kernel
theorem dM_write_10 : decode bM_write 10 = .ok (.iload 4, 2) := by decide +kernel
theorem dM_write_12 : decode bM_write 12 = .ok (.bipush 8, 2) := by decide +kernel
theorem dM_write_14 : decode bM_write 14 = .ok (.if_icmp .ge 57, 3) := by decide +kernel
theorem dM_write_17 : decode bM_write 17 = .ok (.lload_n 1, 1) := by decide +kernel
theorem dM_write_18 : decode bM_write 18 = .ok (.bipush 8, 2) := by decide +kernel
theorem dM_write_20 : decode bM_write 20 = .ok (.iload 4, 2) := by decide +kernel
theorem dM_write_22 : decode bM_write 22 = .ok (.imul, 1) := by decide +kernel
theorem dM_write_23 : decode bM_write 23 = .ok (.lshr, 1) := by decide +kernel
theorem dM_write_24 : decode bM_write 24 = .ok (.ldc2_w 64, 3) := by decide +kernel
theorem dM_write_27 : decode bM_write 27 = .ok (.land, 1) := by decide +kernel
theorem dM_write_28 : decode bM_write 28 = .ok (.l2i, 1) := by decide +kernel
theorem dM_write_29 : decode bM_write 29 = .ok (.istore 5, 2) := by decide +kernel
theorem dM_write_31 : decode bM_write 31 = .ok (.iload 5, 2) := by decide +kernel
theorem dM_write_33 : decode bM_write 33 = .ok (.ifCond .eq 19, 3) := by decide +kernel
theorem dM_write_36 : decode bM_write 36 = .ok (.iload 5, 2) := by decide +kernel
theorem dM_write_38 : decode bM_write 38 = .ok (.bipush 32, 2) := by decide +kernel
theorem dM_write_40 : decode bM_write 40 = .ok (.if_icmp .lt 10, 3) := by decide +kernel
theorem dM_write_43 : decode bM_write 43 = .ok (.iload 5, 2) := by decide +kernel
theorem dM_write_45 : decode bM_write 45 = .ok (.bipush 126, 2) := by decide +kernel
theorem dM_write_47 : decode bM_write 47 = .ok (.if_icmp .le 5, 3) := by decide +kernel
theorem dM_write_50 : decode bM_write 50 = .ok (.iconst 0, 1) := by decide +kernel
theorem dM_write_51 : decode bM_write 51 = .ok (.ireturn, 1) := by decide +kernel
theorem dM_write_52 : decode bM_write 52 = .ok (.iload_n 3, 1) := by decide +kernel
theorem dM_write_53 : decode bM_write 53 = .ok (.iload 5, 2) := by decide +kernel
theorem dM_write_55 : decode bM_write 55 = .ok (.ifCond .ne 7, 3) := by decide +kernel
theorem dM_write_58 : decode bM_write 58 = .ok (.iconst 0, 1) := by decide +kernel
theorem dM_write_59 : decode bM_write 59 = .ok (.goto 4, 3) := by decide +kernel
theorem dM_write_62 : decode bM_write 62 = .ok (.iconst 1, 1) := by decide +kernel
theorem dM_write_63 : decode bM_write 63 = .ok (.iadd, 1) := by decide +kernel
theorem dM_write_64 : decode bM_write 64 = .ok (.istore_n 3, 1) := by decide +kernel
theorem dM_write_65 : decode bM_write 65 = .ok (.iinc 4 1, 3) := by decide +kernel
theorem dM_write_68 : decode bM_write 68 = .ok (.goto (-58), 3) := by decide +kernel
theorem dM_write_71 : decode bM_write 71 = .ok (.aload_n 0, 1) := by decide +kernel
theorem dM_write_72 : decode bM_write 72 = .ok (.getfield 66, 3) := by decide +kernel
theorem dM_write_75 : decode bM_write 75 = .ok (.iload_n 3, 1) := by decide +kernel
theorem dM_write_76 : decode bM_write 76 = .ok (.iadd, 1) := by decide +kernel
theorem dM_write_77 : decode bM_write 77 = .ok (.bipush 120, 2) := by decide +kernel
theorem dM_write_79 : decode bM_write 79 = .ok (.if_icmp .le 5, 3) := by decide +kernel
theorem dM_write_82 : decode bM_write 82 = .ok (.iconst 0, 1) := by decide +kernel
theorem dM_write_83 : decode bM_write 83 = .ok (.ireturn, 1) := by decide +kernel
theorem dM_write_84 : decode bM_write 84 = .ok (.iconst 0, 1) := by decide +kernel
theorem dM_write_85 : decode bM_write 85 = .ok (.istore 4, 2) := by decide +kernel
theorem dM_write_87 : decode bM_write 87 = .ok (.iload 4, 2) := by decide +kernel
theorem dM_write_89 : decode bM_write 89 = .ok (.bipush 8, 2) := by decide +kernel
theorem dM_write_91 : decode bM_write 91 = .ok (.if_icmp .ge 50, 3) := by decide +kernel
theorem dM_write_94 : decode bM_write 94 = .ok (.lload_n 1, 1) := by decide +kernel
theorem dM_write_95 : decode bM_write 95 = .ok (.bipush 8, 2) := by decide +kernel
theorem dM_write_97 : decode bM_write 97 = .ok (.iload 4, 2) := by decide +kernel
theorem dM_write_99 : decode bM_write 99 = .ok (.imul, 1) := by decide +kernel
theorem dM_write_100 : decode bM_write 100 = .ok (.lshr, 1) := by decide +kernel
theorem dM_write_101 : decode bM_write 101 = .ok (.ldc2_w 64, 3) := by decide +kernel
theorem dM_write_104 : decode bM_write 104 = .ok (.land, 1) := by decide +kernel
theorem dM_write_105 : decode bM_write 105 = .ok (.l2i, 1) := by decide +kernel
theorem dM_write_106 : decode bM_write 106 = .ok (.istore 5, 2) := by decide +kernel
theorem dM_write_108 : decode bM_write 108 = .ok (.iload 5, 2) := by decide +kernel
theorem dM_write_110 : decode bM_write 110 = .ok (.ifCond .eq 25, 3) := by decide +kernel
theorem dM_write_113 : decode bM_write 113 = .ok (.aload_n 0, 1) := by decide +kernel
theorem dM_write_114 : decode bM_write 114 = .ok (.getfield 7, 3) := by decide +kernel
theorem dM_write_117 : decode bM_write 117 = .ok (.aload_n 0, 1) := by decide +kernel
theorem dM_write_118 : decode bM_write 118 = .ok (.getfield 66, 3) := by decide +kernel
theorem dM_write_121 : decode bM_write 121 = .ok (.iload 5, 2) := by decide +kernel
theorem dM_write_123 : decode bM_write 123 = .ok (.i2c, 1) := by decide +kernel
theorem dM_write_124 : decode bM_write 124 = .ok (.castore, 1) := by decide +kernel
theorem dM_write_125 : decode bM_write 125 = .ok (.aload_n 0, 1) := by decide +kernel
theorem dM_write_126 : decode bM_write 126 = .ok (.dup, 1) := by decide +kernel
theorem dM_write_127 : decode bM_write 127 = .ok (.getfield 66, 3) := by decide +kernel
theorem dM_write_130 : decode bM_write 130 = .ok (.iconst 1, 1) := by decide +kernel
theorem dM_write_131 : decode bM_write 131 = .ok (.iadd, 1) := by decide +kernel
theorem dM_write_132 : decode bM_write 132 = .ok (.putfield 66, 3) := by decide +kernel
theorem dM_write_135 : decode bM_write 135 = .ok (.iinc 4 1, 3) := by decide +kernel
theorem dM_write_138 : decode bM_write 138 = .ok (.goto (-51), 3) := by decide +kernel
theorem dM_write_141 : decode bM_write 141 = .ok (.iconst 1, 1) := by decide +kernel
theorem dM_write_142 : decode bM_write 142 = .ok (.ireturn, 1) := by decide +kernel
theorem dM_wipe_0 : decode bM_wipe 0 = .ok (.aload_n 0, 1) := by decide +kernel
theorem dM_wipe_1 : decode bM_wipe 1 = .ok (.iconst 0, 1) := by decide +kernel
theorem dM_wipe_2 : decode bM_wipe 2 = .ok (.putfield 60, 3) := by decide +kernel
theorem dM_wipe_5 : decode bM_wipe 5 = .ok (.aload_n 0, 1) := by decide +kernel
theorem dM_wipe_6 : decode bM_wipe 6 = .ok (.getfield 66, 3) := by decide +kernel
theorem dM_wipe_9 : decode bM_wipe 9 = .ok (.istore_n 1, 1) := by decide +kernel
theorem dM_wipe_10 : decode bM_wipe 10 = .ok (.aload_n 0, 1) := by decide +kernel
theorem dM_wipe_11 : decode bM_wipe 11 = .ok (.iconst 0, 1) := by decide +kernel
theorem dM_wipe_12 : decode bM_wipe 12 = .ok (.putfield 66, 3) := by decide +kernel
theorem dM_wipe_15 : decode bM_wipe 15 = .ok (.iload_n 1, 1) := by decide +kernel
theorem dM_wipe_16 : decode bM_wipe 16 = .ok (.ireturn, 1) := by decide +kernel
theorem dM_length_0 : decode bM_length 0 = .ok (.aload_n 0, 1) := by decide +kernel
theorem dM_length_1 : decode bM_length 1 = .ok (.iconst 0, 1) := by decide +kernel
theorem dM_length_2 : decode bM_length 2 = .ok (.putfield 60, 3) := by decide +kernel
theorem dM_length_5 : decode bM_length 5 = .ok (.aload_n 0, 1) := by decide +kernel
theorem dM_length_6 : decode bM_length 6 = .ok (.getfield 66, 3) := by decide +kernel
theorem dM_length_9 : decode bM_length 9 = .ok (.ireturn, 1) := by decide +kernel
theorem dM_deeper_0 : decode bM_deeper 0 = .ok (.aload_n 0, 1) := by decide +kernel
theorem dM_deeper_1 : decode bM_deeper 1 = .ok (.getfield 75, 3) := by decide +kernel
theorem dM_deeper_4 : decode bM_deeper 4 = .ok (.bipush 12, 2) := by decide +kernel
theorem dM_deeper_6 : decode bM_deeper 6 = .ok (.if_icmp .lt 5, 3) := by decide +kernel
theorem dM_deeper_9 : decode bM_deeper 9 = .ok (.iconst 0, 1) := by decide +kernel
theorem dM_deeper_10 : decode bM_deeper 10 = .ok (.ireturn, 1) := by decide +kernel
theorem dM_deeper_11 : decode bM_deeper 11 = .ok (.aload_n 0, 1) := by decide +kernel
theorem dM_deeper_12 : decode bM_deeper 12 = .ok (.dup, 1) := by decide +kernel
theorem dM_deeper_13 : decode bM_deeper 13 = .ok (.getfield 75, 3) := by decide +kernel
theorem dM_deeper_16 : decode bM_deeper 16 = .ok (.iconst 1, 1) := by decide +kernel
theorem dM_deeper_17 : decode bM_deeper 17 = .ok (.iadd, 1) := by decide +kernel
theorem dM_deeper_18 : decode bM_deeper 18 = .ok (.putfield 75, 3) := by decide +kernel
theorem dM_deeper_21 : decode bM_deeper 21 = .ok (.aload_n 0, 1) := by decide +kernel
theorem dM_deeper_22 : decode bM_deeper 22 = .ok (.iload_n 1, 1) := by decide +kernel
theorem dM_deeper_23 : decode bM_deeper 23 = .ok (.invokevirtual 78, 3) := by decide +kernel
theorem dM_deeper_26 : decode bM_deeper 26 = .ok (.iconst 1, 1) := by decide +kernel
theorem dM_deeper_27 : decode bM_deeper 27 = .ok (.ireturn, 1) := by decide +kernel
theorem dM_push_0 : decode bM_push 0 = .ok (.aload_n 0, 1) := by decide +kernel
theorem dM_push_1 : decode bM_push 1 = .ok (.getfield 39, 3) := by decide +kernel
theorem dM_push_4 : decode bM_push 4 = .ok (.aload_n 0, 1) := by decide +kernel
theorem dM_push_5 : decode bM_push 5 = .ok (.getfield 72, 3) := by decide +kernel
theorem dM_push_8 : decode bM_push 8 = .ok (.iload_n 1, 1) := by decide +kernel
theorem dM_push_9 : decode bM_push 9 = .ok (.iastore, 1) := by decide +kernel
theorem dM_push_10 : decode bM_push 10 = .ok (.aload_n 0, 1) := by decide +kernel
theorem dM_push_11 : decode bM_push 11 = .ok (.dup, 1) := by decide +kernel
theorem dM_push_12 : decode bM_push 12 = .ok (.getfield 72, 3) := by decide +kernel
theorem dM_push_15 : decode bM_push 15 = .ok (.iconst 1, 1) := by decide +kernel
theorem dM_push_16 : decode bM_push 16 = .ok (.iadd, 1) := by decide +kernel
theorem dM_push_17 : decode bM_push 17 = .ok (.putfield 72, 3) := by decide +kernel
theorem dM_push_20 : decode bM_push 20 = .ok (.return_, 1) := by decide +kernel
theorem dM_isDigit_0 : decode bM_isDigit 0 = .ok (.iload_n 0, 1) := by decide +kernel
theorem dM_isDigit_1 : decode bM_isDigit 1 = .ok (.bipush 48, 2) := by decide +kernel
theorem dM_isDigit_3 : decode bM_isDigit 3 = .ok (.if_icmp .lt 13, 3) := by decide +kernel
theorem dM_isDigit_6 : decode bM_isDigit 6 = .ok (.iload_n 0, 1) := by decide +kernel
theorem dM_isDigit_7 : decode bM_isDigit 7 = .ok (.bipush 57, 2) := by decide +kernel
theorem dM_isDigit_9 : decode bM_isDigit 9 = .ok (.if_icmp .gt 7, 3) := by decide +kernel
theorem dM_isDigit_12 : decode bM_isDigit 12 = .ok (.iconst 1, 1) := by decide +kernel
theorem dM_isDigit_13 : decode bM_isDigit 13 = .ok (.goto 4, 3) := by decide +kernel
theorem dM_isDigit_16 : decode bM_isDigit 16 = .ok (.iconst 0, 1) := by decide +kernel
theorem dM_isDigit_17 : decode bM_isDigit 17 = .ok (.ireturn, 1) := by decide +kernel
theorem dM_variableOf_0 : decode bM_variableOf 0 = .ok (.iload_n 0, 1) := by decide +kernel
theorem dM_variableOf_1 : decode bM_variableOf 1 = .ok (.bipush 105, 2) := by decide +kernel
theorem dM_variableOf_3 : decode bM_variableOf 3 = .ok (.if_icmp .lt 16, 3) := by decide +kernel
theorem dM_variableOf_6 : decode bM_variableOf 6 = .ok (.iload_n 0, 1) := by decide +kernel
theorem dM_variableOf_7 : decode bM_variableOf 7 = .ok (.bipush 107, 2) := by decide +kernel
theorem dM_variableOf_9 : decode bM_variableOf 9 = .ok (.if_icmp .gt 10, 3) := by decide +kernel
theorem dM_variableOf_12 : decode bM_variableOf 12 = .ok (.iload_n 0, 1) := by decide +kernel
theorem dM_variableOf_13 : decode bM_variableOf 13 = .ok (.bipush 105, 2) := by decide +kernel
theorem dM_variableOf_15 : decode bM_variableOf 15 = .ok (.isub, 1) := by decide +kernel
theorem dM_variableOf_16 : decode bM_variableOf 16 = .ok (.goto 25, 3) := by decide +kernel
theorem dM_variableOf_19 : decode bM_variableOf 19 = .ok (.iload_n 0, 1) := by decide +kernel
theorem dM_variableOf_20 : decode bM_variableOf 20 = .ok (.bipush 88, 2) := by decide +kernel
theorem dM_variableOf_22 : decode bM_variableOf 22 = .ok (.if_icmp .lt 18, 3) := by decide +kernel
theorem dM_variableOf_25 : decode bM_variableOf 25 = .ok (.iload_n 0, 1) := by decide +kernel
theorem dM_variableOf_26 : decode bM_variableOf 26 = .ok (.bipush 90, 2) := by decide +kernel
theorem dM_variableOf_28 : decode bM_variableOf 28 = .ok (.if_icmp .gt 12, 3) := by decide +kernel
theorem dM_variableOf_31 : decode bM_variableOf 31 = .ok (.iload_n 0, 1) := by decide +kernel
theorem dM_variableOf_32 : decode bM_variableOf 32 = .ok (.bipush 88, 2) := by decide +kernel
theorem dM_variableOf_34 : decode bM_variableOf 34 = .ok (.isub, 1) := by decide +kernel
theorem dM_variableOf_35 : decode bM_variableOf 35 = .ok (.iconst 3, 1) := by decide +kernel
theorem dM_variableOf_36 : decode bM_variableOf 36 = .ok (.iadd, 1) := by decide +kernel
theorem dM_variableOf_37 : decode bM_variableOf 37 = .ok (.goto 4, 3) := by decide +kernel
theorem dM_variableOf_40 : decode bM_variableOf 40 = .ok (.iconst (-1), 1) := by decide +kernel
theorem dM_variableOf_41 : decode bM_variableOf 41 = .ok (.ireturn, 1) := by decide +kernel
theorem dM_emit_0 : decode bM_emit 0 = .ok (.aload_n 0, 1) := by decide +kernel
theorem dM_emit_1 : decode bM_emit 1 = .ok (.getfield 27, 3) := by decide +kernel
theorem dM_emit_4 : decode bM_emit 4 = .ok (.aload_n 0, 1) := by decide +kernel
theorem dM_emit_5 : decode bM_emit 5 = .ok (.getfield 69, 3) := by decide +kernel
theorem dM_emit_8 : decode bM_emit 8 = .ok (.iload_n 1, 1) := by decide +kernel
theorem dM_emit_9 : decode bM_emit 9 = .ok (.iastore, 1) := by decide +kernel
theorem dM_emit_10 : decode bM_emit 10 = .ok (.aload_n 0, 1) := by decide +kernel
theorem dM_emit_11 : decode bM_emit 11 = .ok (.getfield 30, 3) := by decide +kernel
theorem dM_emit_14 : decode bM_emit 14 = .ok (.aload_n 0, 1) := by decide +kernel
theorem dM_emit_15 : decode bM_emit 15 = .ok (.getfield 69, 3) := by decide +kernel
theorem dM_emit_18 : decode bM_emit 18 = .ok (.iload_n 2, 1) := by decide +kernel
theorem dM_emit_19 : decode bM_emit 19 = .ok (.iastore, 1) := by decide +kernel
theorem dM_emit_20 : decode bM_emit 20 = .ok (.aload_n 0, 1) := by decide +kernel
theorem dM_emit_21 : decode bM_emit 21 = .ok (.dup, 1) := by decide +kernel
theorem dM_emit_22 : decode bM_emit 22 = .ok (.getfield 69, 3) := by decide +kernel
theorem dM_emit_25 : decode bM_emit 25 = .ok (.iconst 1, 1) := by decide +kernel
theorem dM_emit_26 : decode bM_emit 26 = .ok (.iadd, 1) := by decide +kernel
theorem dM_emit_27 : decode bM_emit 27 = .ok (.putfield 69, 3) := by decide +kernel
theorem dM_emit_30 : decode bM_emit 30 = .ok (.return_, 1) := by decide +kernel
theorem dM_settle_0 : decode bM_settle 0 = .ok (.aload_n 0, 1) := by decide +kernel
theorem dM_settle_1 : decode bM_settle 1 = .ok (.invokevirtual 82, 3) := by decide +kernel
theorem dM_settle_4 : decode bM_settle 4 = .ok (.iload_n 1, 1) := by decide +kernel
theorem dM_settle_5 : decode bM_settle 5 = .ok (.if_icmp .eq 11, 3) := by decide +kernel
theorem dM_settle_8 : decode bM_settle 8 = .ok (.aload_n 0, 1) := by decide +kernel
theorem dM_settle_9 : decode bM_settle 9 = .ok (.invokevirtual 82, 3) := by decide +kernel
theorem dM_settle_12 : decode bM_settle 12 = .ok (.iload_n 2, 1) := by decide +kernel
theorem dM_settle_13 : decode bM_settle 13 = .ok (.if_icmp .ne 30, 3) := by decide +kernel
theorem dM_settle_16 : decode bM_settle 16 = .ok (.aload_n 0, 1) := by decide +kernel
theorem dM_settle_17 : decode bM_settle 17 = .ok (.dup, 1) := by decide +kernel
theorem dM_settle_18 : decode bM_settle 18 = .ok (.getfield 72, 3) := by decide +kernel
theorem dM_settle_21 : decode bM_settle 21 = .ok (.iconst 1, 1) := by decide +kernel
theorem dM_settle_22 : decode bM_settle 22 = .ok (.isub, 1) := by decide +kernel
theorem dM_settle_23 : decode bM_settle 23 = .ok (.putfield 72, 3) := by decide +kernel
theorem dM_settle_26 : decode bM_settle 26 = .ok (.aload_n 0, 1) := by decide +kernel
theorem dM_settle_27 : decode bM_settle 27 = .ok (.aload_n 0, 1) := by decide +kernel
theorem dM_settle_28 : decode bM_settle 28 = .ok (.getfield 39, 3) := by decide +kernel
theorem dM_settle_31 : decode bM_settle 31 = .ok (.aload_n 0, 1) := by decide +kernel
theorem dM_settle_32 : decode bM_settle 32 = .ok (.getfield 72, 3) := by decide +kernel
theorem dM_settle_35 : decode bM_settle 35 = .ok (.iaload, 1) := by decide +kernel
theorem dM_settle_36 : decode bM_settle 36 = .ok (.iconst 0, 1) := by decide +kernel
theorem dM_settle_37 : decode bM_settle 37 = .ok (.invokevirtual 86, 3) := by decide +kernel
theorem dM_settle_40 : decode bM_settle 40 = .ok (.goto (-40), 3) := by decide +kernel
theorem dM_settle_43 : decode bM_settle 43 = .ok (.return_, 1) := by decide +kernel
theorem dM_upper_0 : decode bM_upper 0 = .ok (.aload_n 0, 1) := by decide +kernel
theorem dM_upper_1 : decode bM_upper 1 = .ok (.getfield 72, 3) := by decide +kernel
theorem dM_upper_4 : decode bM_upper 4 = .ok (.ifCond .ne 7, 3) := by decide +kernel
theorem dM_upper_7 : decode bM_upper 7 = .ok (.iconst 0, 1) := by decide +kernel
theorem dM_upper_8 : decode bM_upper 8 = .ok (.goto 14, 3) := by decide +kernel
theorem dM_upper_11 : decode bM_upper 11 = .ok (.aload_n 0, 1) := by decide +kernel
theorem dM_upper_12 : decode bM_upper 12 = .ok (.getfield 39, 3) := by decide +kernel
theorem dM_upper_15 : decode bM_upper 15 = .ok (.aload_n 0, 1) := by decide +kernel
theorem dM_upper_16 : decode bM_upper 16 = .ok (.getfield 72, 3) := by decide +kernel
theorem dM_upper_19 : decode bM_upper 19 = .ok (.iconst 1, 1) := by decide +kernel
theorem dM_upper_20 : decode bM_upper 20 = .ok (.isub, 1) := by decide +kernel
theorem dM_upper_21 : decode bM_upper 21 = .ok (.iaload, 1) := by decide +kernel
theorem dM_upper_22 : decode bM_upper 22 = .ok (.ireturn, 1) := by decide +kernel
theorem dM_close_0 : decode bM_close 0 = .ok (.aload_n 0, 1) := by decide +kernel
theorem dM_close_1 : decode bM_close 1 = .ok (.dup, 1) := by decide +kernel
theorem dM_close_2 : decode bM_close 2 = .ok (.getfield 72, 3) := by decide +kernel
theorem dM_close_5 : decode bM_close 5 = .ok (.iconst 1, 1) := by decide +kernel
theorem dM_close_6 : decode bM_close 6 = .ok (.isub, 1) := by decide +kernel
theorem dM_close_7 : decode bM_close 7 = .ok (.putfield 72, 3) := by decide +kernel
theorem dM_close_10 : decode bM_close 10 = .ok (.aload_n 0, 1) := by decide +kernel
theorem dM_close_11 : decode bM_close 11 = .ok (.dup, 1) := by decide +kernel
theorem dM_close_12 : decode bM_close 12 = .ok (.getfield 75, 3) := by decide +kernel
theorem dM_close_15 : decode bM_close 15 = .ok (.iconst 1, 1) := by decide +kernel
theorem dM_close_16 : decode bM_close 16 = .ok (.isub, 1) := by decide +kernel
theorem dM_close_17 : decode bM_close 17 = .ok (.putfield 75, 3) := by decide +kernel
theorem dM_close_20 : decode bM_close 20 = .ok (.return_, 1) := by decide +kernel
section
variable {p : Program} {l : Launch} {e : Env} {R : Room} {s : State} {m : MethodId} {args : Array Value} {below : List Frame} {meth : Method} {c : Code} {G : Gx} {M0 M' : Mem} {r : Option Value ⊕ Nat} {d : Nat} {C : Cx}

def fM_init_0 (n d : Nat) (C : Cx) (a0 : Nat) (M : Mem) : Rz := if ¬ (120 : Int32) < 0 then (if (120 : Int32).toNatClampNeg ≤ 1000 then (if mS M + 1 ≤ mC M 0 then (if mU M + (120 : Int32).toNatClampNeg ≤ SLm then (rzM (newC M 22 ((120 : Int32).toNatClampNeg) ((120 : Int32).toNatClampNeg)) fun M_5 => (if mK M_5 a0 = 5 then (rzM (setP M_5 a0 2 (some (mS M))) fun M_9 => (if ¬ (260 : Int32) < 0 then (if (260 : Int32).toNatClampNeg ≤ 1000 then (if mS M_9 + 1 ≤ mC M_9 0 then (if mU M_9 + (260 : Int32).toNatClampNeg ≤ SLm then (rzM (newC M_9 21 ((260 : Int32).toNatClampNeg) ((260 : Int32).toNatClampNeg)) fun M_17 => (rzM (setP M_17 a0 6 (some (mS M_9))) fun M_22 => (if ¬ (260 : Int32) < 0 then (if (260 : Int32).toNatClampNeg ≤ 1000 then (if mS M_22 + 1 ≤ mC M_22 0 then (if mU M_22 + (260 : Int32).toNatClampNeg ≤ SLm then (rzM (newC M_22 21 ((260 : Int32).toNatClampNeg) ((260 : Int32).toNatClampNeg)) fun M_31 => (rzM (setP M_31 a0 7 (some (mS M_22))) fun M_37 => (if ¬ (4 : Int32) < 0 then (if (4 : Int32).toNatClampNeg ≤ 1000 then (if mS M_37 + 1 ≤ mC M_37 0 then (if mU M_37 + (4 : Int32).toNatClampNeg ≤ SLm then (rzM (newC M_37 23 ((4 : Int32).toNatClampNeg) ((4 : Int32).toNatClampNeg)) fun M_47 => (rzM (setP M_47 a0 8 (some (mS M_37))) fun M_54 => (if ¬ (4 : Int32) < 0 then (if (4 : Int32).toNatClampNeg ≤ 1000 then (if mS M_54 + 1 ≤ mC M_54 0 then (if mU M_54 + (4 : Int32).toNatClampNeg ≤ SLm then (rzM (newC M_54 23 ((4 : Int32).toNatClampNeg) ((4 : Int32).toNatClampNeg)) fun M_65 => (rzM (setP M_65 a0 9 (some (mS M_54))) fun M_73 => (if ¬ (260 : Int32) < 0 then (if (260 : Int32).toNatClampNeg ≤ 1000 then (if mS M_73 + 1 ≤ mC M_73 0 then (if mU M_73 + (260 : Int32).toNatClampNeg ≤ SLm then (rzM (newC M_73 21 ((260 : Int32).toNatClampNeg) ((260 : Int32).toNatClampNeg)) fun M_85 => (rzM (setP M_85 a0 14 (some (mS M_73))) fun M_94 => (if ¬ (260 : Int32) < 0 then (if (260 : Int32).toNatClampNeg ≤ 1000 then (if mS M_94 + 1 ≤ mC M_94 0 then (if mU M_94 + (260 : Int32).toNatClampNeg ≤ SLm then (rzM (newC M_94 21 ((260 : Int32).toNatClampNeg) ((260 : Int32).toNatClampNeg)) fun M_107 => (rzM (setP M_107 a0 15 (some (mS M_94))) fun M_117 => (if ¬ (4 : Int32) < 0 then (if (4 : Int32).toNatClampNeg ≤ 1000 then (if mS M_117 + 1 ≤ mC M_117 0 then (if mU M_117 + (4 : Int32).toNatClampNeg ≤ SLm then (rzM (newC M_117 23 ((4 : Int32).toNatClampNeg) ((4 : Int32).toNatClampNeg)) fun M_131 => (rzM (setP M_131 a0 16 (some (mS M_117))) fun M_142 => (if ¬ (4 : Int32) < 0 then (if (4 : Int32).toNatClampNeg ≤ 1000 then (if mS M_142 + 1 ≤ mC M_142 0 then (if mU M_142 + (4 : Int32).toNatClampNeg ≤ SLm then (rzM (newC M_142 23 ((4 : Int32).toNatClampNeg) ((4 : Int32).toNatClampNeg)) fun M_157 => (rzM (setP M_157 a0 17 (some (mS M_142))) fun M_169 => (if ¬ (140 : Int32) < 0 then (if (140 : Int32).toNatClampNeg ≤ 1000 then (if mS M_169 + 1 ≤ mC M_169 0 then (if mU M_169 + (140 : Int32).toNatClampNeg ≤ SLm then (rzM (newC M_169 21 ((140 : Int32).toNatClampNeg) ((140 : Int32).toNatClampNeg)) fun M_185 => (rzM (setP M_185 a0 20 (some (mS M_169))) fun M_198 => (if ¬ (140 : Int32) < 0 then (if (140 : Int32).toNatClampNeg ≤ 1000 then (if mS M_198 + 1 ≤ mC M_198 0 then (if mU M_198 + (140 : Int32).toNatClampNeg ≤ SLm then (rzM (newC M_198 21 ((140 : Int32).toNatClampNeg) ((140 : Int32).toNatClampNeg)) fun M_215 => (rzM (setP M_215 a0 21 (some (mS M_198))) fun M_229 => (if ¬ (140 : Int32) < 0 then (if (140 : Int32).toNatClampNeg ≤ 1000 then (if mS M_229 + 1 ≤ mC M_229 0 then (if mU M_229 + (140 : Int32).toNatClampNeg ≤ SLm then (rzM (newC M_229 21 ((140 : Int32).toNatClampNeg) ((140 : Int32).toNatClampNeg)) fun M_247 => (rzM (setP M_247 a0 22 (some (mS M_229))) fun M_262 => (if ¬ (6 : Int32) < 0 then (if (6 : Int32).toNatClampNeg ≤ 1000 then (if mS M_262 + 1 ≤ mC M_262 0 then (if mU M_262 + (6 : Int32).toNatClampNeg ≤ SLm then (rzM (newC M_262 21 ((6 : Int32).toNatClampNeg) ((6 : Int32).toNatClampNeg)) fun M_281 => (rzM (setP M_281 a0 23 (some (mS M_262))) fun M_297 => (if ¬ (4 : Int32) < 0 then (if (4 : Int32).toNatClampNeg ≤ 1000 then (if mS M_297 + 1 ≤ mC M_297 0 then (if mU M_297 + (4 : Int32).toNatClampNeg ≤ SLm then (rzM (newC M_297 21 ((4 : Int32).toNatClampNeg) ((4 : Int32).toNatClampNeg)) fun M_317 => (rzM (setP M_317 a0 36 (some (mS M_297))) fun M_334 => (if ¬ (4 : Int32) < 0 then (if (4 : Int32).toNatClampNeg ≤ 1000 then (if mS M_334 + 1 ≤ mC M_334 0 then (if mU M_334 + (4 : Int32).toNatClampNeg ≤ SLm then (rzM (newC M_334 21 ((4 : Int32).toNatClampNeg) ((4 : Int32).toNatClampNeg)) fun M_355 => (rzM (setP M_355 a0 37 (some (mS M_334))) fun M_373 => (if ¬ (260 : Int32) < 0 then (if (260 : Int32).toNatClampNeg ≤ 1000 then (if mS M_373 + 1 ≤ mC M_373 0 then (if mU M_373 + (260 : Int32).toNatClampNeg ≤ SLm then (rzM (newC M_373 21 ((260 : Int32).toNatClampNeg) ((260 : Int32).toNatClampNeg)) fun M_395 => (rzM (setP M_395 a0 39 (some (mS M_373))) fun M_414 => (some (.inl none, M_414)))) else none) else none) else none) else none))) else none) else none) else none) else none))) else none) else none) else none) else none))) else none) else none) else none) else none))) else none) else none) else none) else none))) else none) else none) else none) else none))) else none) else none) else none) else none))) else none) else none) else none) else none))) else none) else none) else none) else none))) else none) else none) else none) else none))) else none) else none) else none) else none))) else none) else none) else none) else none))) else none) else none) else none) else none))) else none) else none) else none) else none))) else none) else none) else none) else none)) else none)) else none) else none) else none) else none
set_option maxRecDepth 100000 in
set_option maxHeartbeats 4000000 in
theorem tM_init_0 {n : Nat} (F : FX p s m meth c G R M0 d "HeadCountModel" bM_init 1 none) (hin : meth.name = "<init>") (hC : CBs l G d C) : ∀ (a0 : Nat) (M : Mem) (H : Heap) (locs : List Loc) (cells slots : Nat) (ls : Array Slot), fM_init_0 n d C a0 M = some (r, M') → RL G M0 M H locs cells slots → lv_has ls 1 [(0, .ref a0)] → W p l e R s m args below meth c H locs cells slots (CQ G below s M0 r M') (F0 m 0 ls []) := by
  obtain ⟨hx, hb, hml, hown, hrt, hlk, hex, hK, hRm⟩ := id F
  intro a0 M H locs cells slots ls h hR hl
  unfold fM_init_0 at h
  refine lv_aload_n hx hb dM_init_0 rfl (lv_at hl 0 rfl) ?_
  refine W.objInit hx hb hown (hK.w kl_M_1 rfl args) (hK.w oi1 rfl args) (hK.w oi2 rfl args) rfl (hl.1.trans hml.symm) rfl dM_init_1 (Nat.le_trans (Nat.le_add_left 1 d) hRm.1) (by have := hRm.2.1; simp [cat_rf, cat_i, cat_a, cat_l, cat_n]; omega) ?_
  refine lv_aload_n hx hb dM_init_4 rfl (lv_at hl 0 rfl) ?_
  refine lv_bipush (v := 120) hx hb dM_init_5 (by decide) ?_
  obtain ⟨c_1, h⟩ := rz_chk h
  obtain ⟨c_2, h⟩ := rz_chk h
  obtain ⟨c_3, h⟩ := rz_chk h
  obtain ⟨c_4, h⟩ := rz_chk h
  obtain ⟨M_5, q_6, h⟩ := rz_m h
  have hR0 := hR
  refine rg_newa (kd := 22) (atype := .char) (ty := .char) hx hb hK hR hRm rfl (by decide) ka_char c_1 c_2 c_3 c_4 dM_init_7 (fun H hR => ?_)
  rw [← q_6] at hR
  have c_7 : mK M_5 (mS M) = 22 := by rw [q_6, mK_newC, va_up_self]
  obtain ⟨c_8, h⟩ := rz_chk h
  obtain ⟨M_9, q_10, h⟩ := rz_m h
  refine rg_putF (r := some (mS M)) hx hb hown hK hR hk_M 2 (by decide) kf_M_7 rfl hin rfl rfl (ty := .array .char) (by decide +kernel) (Or.inr ⟨_, rfl⟩) c_8 dM_init_9 (fun H locs hR => ?_)
  rw [← q_10] at hR
  have c_11 : mK M_9 (mS M) = 22 := by rw [q_10]; exact c_7
  have c_12 : mK M_9 a0 = 5 := by rw [q_10]; exact c_8
  refine lv_aload_n hx hb dM_init_12 rfl (lv_at hl 0 rfl) ?_
  refine lv_sipush (v := 260) hx hb dM_init_13 (by decide) ?_
  obtain ⟨c_13, h⟩ := rz_chk h
  obtain ⟨c_14, h⟩ := rz_chk h
  obtain ⟨c_15, h⟩ := rz_chk h
  obtain ⟨c_16, h⟩ := rz_chk h
  obtain ⟨M_17, q_18, h⟩ := rz_m h
  have hR0 := hR
  refine rg_newa (kd := 21) (atype := .int) (ty := .int) hx hb hK hR hRm rfl (by decide) ka_int c_13 c_14 c_15 c_16 dM_init_16 (fun H hR => ?_)
  rw [← q_18] at hR
  have c_19 : mK M_17 (mS M) = 22 := by rw [q_18]; exact kn_keep hR0 c_11 (by decide)
  have c_20 : mK M_17 a0 = 5 := by rw [q_18]; exact kn_keep hR0 c_12 (by decide)
  have c_21 : mK M_17 (mS M_9) = 21 := by rw [q_18, mK_newC, va_up_self]
  obtain ⟨M_22, q_23, h⟩ := rz_m h
  refine rg_putF (r := some (mS M_9)) hx hb hown hK hR hk_M 6 (by decide) kf_M_13 rfl hin rfl rfl (ty := .array .int) (by decide +kernel) (Or.inr ⟨_, rfl⟩) c_20 dM_init_18 (fun H locs hR => ?_)
  rw [← q_23] at hR
  have c_24 : mK M_22 (mS M) = 22 := by rw [q_23]; exact c_19
  have c_25 : mK M_22 a0 = 5 := by rw [q_23]; exact c_20
  have c_26 : mK M_22 (mS M_9) = 21 := by rw [q_23]; exact c_21
  refine lv_aload_n hx hb dM_init_21 rfl (lv_at hl 0 rfl) ?_
  refine lv_sipush (v := 260) hx hb dM_init_22 (by decide) ?_
  obtain ⟨c_27, h⟩ := rz_chk h
  obtain ⟨c_28, h⟩ := rz_chk h
  obtain ⟨c_29, h⟩ := rz_chk h
  obtain ⟨c_30, h⟩ := rz_chk h
  obtain ⟨M_31, q_32, h⟩ := rz_m h
  have hR0 := hR
  refine rg_newa (kd := 21) (atype := .int) (ty := .int) hx hb hK hR hRm rfl (by decide) ka_int c_27 c_28 c_29 c_30 dM_init_25 (fun H hR => ?_)
  rw [← q_32] at hR
  have c_33 : mK M_31 (mS M) = 22 := by rw [q_32]; exact kn_keep hR0 c_24 (by decide)
  have c_34 : mK M_31 a0 = 5 := by rw [q_32]; exact kn_keep hR0 c_25 (by decide)
  have c_35 : mK M_31 (mS M_9) = 21 := by rw [q_32]; exact kn_keep hR0 c_26 (by decide)
  have c_36 : mK M_31 (mS M_22) = 21 := by rw [q_32, mK_newC, va_up_self]
  obtain ⟨M_37, q_38, h⟩ := rz_m h
  refine rg_putF (r := some (mS M_22)) hx hb hown hK hR hk_M 7 (by decide) kf_M_17 rfl hin rfl rfl (ty := .array .int) (by decide +kernel) (Or.inr ⟨_, rfl⟩) c_34 dM_init_27 (fun H locs hR => ?_)
  rw [← q_38] at hR
  have c_39 : mK M_37 (mS M) = 22 := by rw [q_38]; exact c_33
  have c_40 : mK M_37 a0 = 5 := by rw [q_38]; exact c_34
  have c_41 : mK M_37 (mS M_9) = 21 := by rw [q_38]; exact c_35
  have c_42 : mK M_37 (mS M_22) = 21 := by rw [q_38]; exact c_36
  refine lv_aload_n hx hb dM_init_30 rfl (lv_at hl 0 rfl) ?_
  refine lv_iconst (v := 4) hx hb dM_init_31 (by decide) ?_
  obtain ⟨c_43, h⟩ := rz_chk h
  obtain ⟨c_44, h⟩ := rz_chk h
  obtain ⟨c_45, h⟩ := rz_chk h
  obtain ⟨c_46, h⟩ := rz_chk h
  obtain ⟨M_47, q_48, h⟩ := rz_m h
  have hR0 := hR
  refine rg_newa (kd := 23) (atype := .boolean) (ty := .boolean) hx hb hK hR hRm rfl (by decide) ka_boolean c_43 c_44 c_45 c_46 dM_init_32 (fun H hR => ?_)
  rw [← q_48] at hR
  have c_49 : mK M_47 (mS M) = 22 := by rw [q_48]; exact kn_keep hR0 c_39 (by decide)
  have c_50 : mK M_47 a0 = 5 := by rw [q_48]; exact kn_keep hR0 c_40 (by decide)
  have c_51 : mK M_47 (mS M_9) = 21 := by rw [q_48]; exact kn_keep hR0 c_41 (by decide)
  have c_52 : mK M_47 (mS M_22) = 21 := by rw [q_48]; exact kn_keep hR0 c_42 (by decide)
  have c_53 : mK M_47 (mS M_37) = 23 := by rw [q_48, mK_newC, va_up_self]
  obtain ⟨M_54, q_55, h⟩ := rz_m h
  refine rg_putF (r := some (mS M_37)) hx hb hown hK hR hk_M 8 (by decide) kf_M_20 rfl hin rfl rfl (ty := .array .boolean) (by decide +kernel) (Or.inr ⟨_, rfl⟩) c_50 dM_init_34 (fun H locs hR => ?_)
  rw [← q_55] at hR
  have c_56 : mK M_54 (mS M) = 22 := by rw [q_55]; exact c_49
  have c_57 : mK M_54 a0 = 5 := by rw [q_55]; exact c_50
  have c_58 : mK M_54 (mS M_9) = 21 := by rw [q_55]; exact c_51
  have c_59 : mK M_54 (mS M_22) = 21 := by rw [q_55]; exact c_52
  have c_60 : mK M_54 (mS M_37) = 23 := by rw [q_55]; exact c_53
  refine lv_aload_n hx hb dM_init_37 rfl (lv_at hl 0 rfl) ?_
  refine lv_iconst (v := 4) hx hb dM_init_38 (by decide) ?_
  obtain ⟨c_61, h⟩ := rz_chk h
  obtain ⟨c_62, h⟩ := rz_chk h
  obtain ⟨c_63, h⟩ := rz_chk h
  obtain ⟨c_64, h⟩ := rz_chk h
  obtain ⟨M_65, q_66, h⟩ := rz_m h
  have hR0 := hR
  refine rg_newa (kd := 23) (atype := .boolean) (ty := .boolean) hx hb hK hR hRm rfl (by decide) ka_boolean c_61 c_62 c_63 c_64 dM_init_39 (fun H hR => ?_)
  rw [← q_66] at hR
  have c_67 : mK M_65 (mS M) = 22 := by rw [q_66]; exact kn_keep hR0 c_56 (by decide)
  have c_68 : mK M_65 a0 = 5 := by rw [q_66]; exact kn_keep hR0 c_57 (by decide)
  have c_69 : mK M_65 (mS M_9) = 21 := by rw [q_66]; exact kn_keep hR0 c_58 (by decide)
  have c_70 : mK M_65 (mS M_22) = 21 := by rw [q_66]; exact kn_keep hR0 c_59 (by decide)
  have c_71 : mK M_65 (mS M_37) = 23 := by rw [q_66]; exact kn_keep hR0 c_60 (by decide)
  have c_72 : mK M_65 (mS M_54) = 23 := by rw [q_66, mK_newC, va_up_self]
  obtain ⟨M_73, q_74, h⟩ := rz_m h
  refine rg_putF (r := some (mS M_54)) hx hb hown hK hR hk_M 9 (by decide) kf_M_24 rfl hin rfl rfl (ty := .array .boolean) (by decide +kernel) (Or.inr ⟨_, rfl⟩) c_68 dM_init_41 (fun H locs hR => ?_)
  rw [← q_74] at hR
  have c_75 : mK M_73 (mS M) = 22 := by rw [q_74]; exact c_67
  have c_76 : mK M_73 a0 = 5 := by rw [q_74]; exact c_68
  have c_77 : mK M_73 (mS M_9) = 21 := by rw [q_74]; exact c_69
  have c_78 : mK M_73 (mS M_22) = 21 := by rw [q_74]; exact c_70
  have c_79 : mK M_73 (mS M_37) = 23 := by rw [q_74]; exact c_71
  have c_80 : mK M_73 (mS M_54) = 23 := by rw [q_74]; exact c_72
  refine lv_aload_n hx hb dM_init_44 rfl (lv_at hl 0 rfl) ?_
  refine lv_sipush (v := 260) hx hb dM_init_45 (by decide) ?_
  obtain ⟨c_81, h⟩ := rz_chk h
  obtain ⟨c_82, h⟩ := rz_chk h
  obtain ⟨c_83, h⟩ := rz_chk h
  obtain ⟨c_84, h⟩ := rz_chk h
  obtain ⟨M_85, q_86, h⟩ := rz_m h
  have hR0 := hR
  refine rg_newa (kd := 21) (atype := .int) (ty := .int) hx hb hK hR hRm rfl (by decide) ka_int c_81 c_82 c_83 c_84 dM_init_48 (fun H hR => ?_)
  rw [← q_86] at hR
  have c_87 : mK M_85 (mS M) = 22 := by rw [q_86]; exact kn_keep hR0 c_75 (by decide)
  have c_88 : mK M_85 a0 = 5 := by rw [q_86]; exact kn_keep hR0 c_76 (by decide)
  have c_89 : mK M_85 (mS M_9) = 21 := by rw [q_86]; exact kn_keep hR0 c_77 (by decide)
  have c_90 : mK M_85 (mS M_22) = 21 := by rw [q_86]; exact kn_keep hR0 c_78 (by decide)
  have c_91 : mK M_85 (mS M_37) = 23 := by rw [q_86]; exact kn_keep hR0 c_79 (by decide)
  have c_92 : mK M_85 (mS M_54) = 23 := by rw [q_86]; exact kn_keep hR0 c_80 (by decide)
  have c_93 : mK M_85 (mS M_73) = 21 := by rw [q_86, mK_newC, va_up_self]
  obtain ⟨M_94, q_95, h⟩ := rz_m h
  refine rg_putF (r := some (mS M_73)) hx hb hown hK hR hk_M 14 (by decide) kf_M_27 rfl hin rfl rfl (ty := .array .int) (by decide +kernel) (Or.inr ⟨_, rfl⟩) c_88 dM_init_50 (fun H locs hR => ?_)
  rw [← q_95] at hR
  have c_96 : mK M_94 (mS M) = 22 := by rw [q_95]; exact c_87
  have c_97 : mK M_94 a0 = 5 := by rw [q_95]; exact c_88
  have c_98 : mK M_94 (mS M_9) = 21 := by rw [q_95]; exact c_89
  have c_99 : mK M_94 (mS M_22) = 21 := by rw [q_95]; exact c_90
  have c_100 : mK M_94 (mS M_37) = 23 := by rw [q_95]; exact c_91
  have c_101 : mK M_94 (mS M_54) = 23 := by rw [q_95]; exact c_92
  have c_102 : mK M_94 (mS M_73) = 21 := by rw [q_95]; exact c_93
  refine lv_aload_n hx hb dM_init_53 rfl (lv_at hl 0 rfl) ?_
  refine lv_sipush (v := 260) hx hb dM_init_54 (by decide) ?_
  obtain ⟨c_103, h⟩ := rz_chk h
  obtain ⟨c_104, h⟩ := rz_chk h
  obtain ⟨c_105, h⟩ := rz_chk h
  obtain ⟨c_106, h⟩ := rz_chk h
  obtain ⟨M_107, q_108, h⟩ := rz_m h
  have hR0 := hR
  refine rg_newa (kd := 21) (atype := .int) (ty := .int) hx hb hK hR hRm rfl (by decide) ka_int c_103 c_104 c_105 c_106 dM_init_57 (fun H hR => ?_)
  rw [← q_108] at hR
  have c_109 : mK M_107 (mS M) = 22 := by rw [q_108]; exact kn_keep hR0 c_96 (by decide)
  have c_110 : mK M_107 a0 = 5 := by rw [q_108]; exact kn_keep hR0 c_97 (by decide)
  have c_111 : mK M_107 (mS M_9) = 21 := by rw [q_108]; exact kn_keep hR0 c_98 (by decide)
  have c_112 : mK M_107 (mS M_22) = 21 := by rw [q_108]; exact kn_keep hR0 c_99 (by decide)
  have c_113 : mK M_107 (mS M_37) = 23 := by rw [q_108]; exact kn_keep hR0 c_100 (by decide)
  have c_114 : mK M_107 (mS M_54) = 23 := by rw [q_108]; exact kn_keep hR0 c_101 (by decide)
  have c_115 : mK M_107 (mS M_73) = 21 := by rw [q_108]; exact kn_keep hR0 c_102 (by decide)
  have c_116 : mK M_107 (mS M_94) = 21 := by rw [q_108, mK_newC, va_up_self]
  obtain ⟨M_117, q_118, h⟩ := rz_m h
  refine rg_putF (r := some (mS M_94)) hx hb hown hK hR hk_M 15 (by decide) kf_M_30 rfl hin rfl rfl (ty := .array .int) (by decide +kernel) (Or.inr ⟨_, rfl⟩) c_110 dM_init_59 (fun H locs hR => ?_)
  rw [← q_118] at hR
  have c_119 : mK M_117 (mS M) = 22 := by rw [q_118]; exact c_109
  have c_120 : mK M_117 a0 = 5 := by rw [q_118]; exact c_110
  have c_121 : mK M_117 (mS M_9) = 21 := by rw [q_118]; exact c_111
  have c_122 : mK M_117 (mS M_22) = 21 := by rw [q_118]; exact c_112
  have c_123 : mK M_117 (mS M_37) = 23 := by rw [q_118]; exact c_113
  have c_124 : mK M_117 (mS M_54) = 23 := by rw [q_118]; exact c_114
  have c_125 : mK M_117 (mS M_73) = 21 := by rw [q_118]; exact c_115
  have c_126 : mK M_117 (mS M_94) = 21 := by rw [q_118]; exact c_116
  refine lv_aload_n hx hb dM_init_62 rfl (lv_at hl 0 rfl) ?_
  refine lv_iconst (v := 4) hx hb dM_init_63 (by decide) ?_
  obtain ⟨c_127, h⟩ := rz_chk h
  obtain ⟨c_128, h⟩ := rz_chk h
  obtain ⟨c_129, h⟩ := rz_chk h
  obtain ⟨c_130, h⟩ := rz_chk h
  obtain ⟨M_131, q_132, h⟩ := rz_m h
  have hR0 := hR
  refine rg_newa (kd := 23) (atype := .boolean) (ty := .boolean) hx hb hK hR hRm rfl (by decide) ka_boolean c_127 c_128 c_129 c_130 dM_init_64 (fun H hR => ?_)
  rw [← q_132] at hR
  have c_133 : mK M_131 (mS M) = 22 := by rw [q_132]; exact kn_keep hR0 c_119 (by decide)
  have c_134 : mK M_131 a0 = 5 := by rw [q_132]; exact kn_keep hR0 c_120 (by decide)
  have c_135 : mK M_131 (mS M_9) = 21 := by rw [q_132]; exact kn_keep hR0 c_121 (by decide)
  have c_136 : mK M_131 (mS M_22) = 21 := by rw [q_132]; exact kn_keep hR0 c_122 (by decide)
  have c_137 : mK M_131 (mS M_37) = 23 := by rw [q_132]; exact kn_keep hR0 c_123 (by decide)
  have c_138 : mK M_131 (mS M_54) = 23 := by rw [q_132]; exact kn_keep hR0 c_124 (by decide)
  have c_139 : mK M_131 (mS M_73) = 21 := by rw [q_132]; exact kn_keep hR0 c_125 (by decide)
  have c_140 : mK M_131 (mS M_94) = 21 := by rw [q_132]; exact kn_keep hR0 c_126 (by decide)
  have c_141 : mK M_131 (mS M_117) = 23 := by rw [q_132, mK_newC, va_up_self]
  obtain ⟨M_142, q_143, h⟩ := rz_m h
  refine rg_putF (r := some (mS M_117)) hx hb hown hK hR hk_M 16 (by decide) kf_M_33 rfl hin rfl rfl (ty := .array .boolean) (by decide +kernel) (Or.inr ⟨_, rfl⟩) c_134 dM_init_66 (fun H locs hR => ?_)
  rw [← q_143] at hR
  have c_144 : mK M_142 (mS M) = 22 := by rw [q_143]; exact c_133
  have c_145 : mK M_142 a0 = 5 := by rw [q_143]; exact c_134
  have c_146 : mK M_142 (mS M_9) = 21 := by rw [q_143]; exact c_135
  have c_147 : mK M_142 (mS M_22) = 21 := by rw [q_143]; exact c_136
  have c_148 : mK M_142 (mS M_37) = 23 := by rw [q_143]; exact c_137
  have c_149 : mK M_142 (mS M_54) = 23 := by rw [q_143]; exact c_138
  have c_150 : mK M_142 (mS M_73) = 21 := by rw [q_143]; exact c_139
  have c_151 : mK M_142 (mS M_94) = 21 := by rw [q_143]; exact c_140
  have c_152 : mK M_142 (mS M_117) = 23 := by rw [q_143]; exact c_141
  refine lv_aload_n hx hb dM_init_69 rfl (lv_at hl 0 rfl) ?_
  refine lv_iconst (v := 4) hx hb dM_init_70 (by decide) ?_
  obtain ⟨c_153, h⟩ := rz_chk h
  obtain ⟨c_154, h⟩ := rz_chk h
  obtain ⟨c_155, h⟩ := rz_chk h
  obtain ⟨c_156, h⟩ := rz_chk h
  obtain ⟨M_157, q_158, h⟩ := rz_m h
  have hR0 := hR
  refine rg_newa (kd := 23) (atype := .boolean) (ty := .boolean) hx hb hK hR hRm rfl (by decide) ka_boolean c_153 c_154 c_155 c_156 dM_init_71 (fun H hR => ?_)
  rw [← q_158] at hR
  have c_159 : mK M_157 (mS M) = 22 := by rw [q_158]; exact kn_keep hR0 c_144 (by decide)
  have c_160 : mK M_157 a0 = 5 := by rw [q_158]; exact kn_keep hR0 c_145 (by decide)
  have c_161 : mK M_157 (mS M_9) = 21 := by rw [q_158]; exact kn_keep hR0 c_146 (by decide)
  have c_162 : mK M_157 (mS M_22) = 21 := by rw [q_158]; exact kn_keep hR0 c_147 (by decide)
  have c_163 : mK M_157 (mS M_37) = 23 := by rw [q_158]; exact kn_keep hR0 c_148 (by decide)
  have c_164 : mK M_157 (mS M_54) = 23 := by rw [q_158]; exact kn_keep hR0 c_149 (by decide)
  have c_165 : mK M_157 (mS M_73) = 21 := by rw [q_158]; exact kn_keep hR0 c_150 (by decide)
  have c_166 : mK M_157 (mS M_94) = 21 := by rw [q_158]; exact kn_keep hR0 c_151 (by decide)
  have c_167 : mK M_157 (mS M_117) = 23 := by rw [q_158]; exact kn_keep hR0 c_152 (by decide)
  have c_168 : mK M_157 (mS M_142) = 23 := by rw [q_158, mK_newC, va_up_self]
  obtain ⟨M_169, q_170, h⟩ := rz_m h
  refine rg_putF (r := some (mS M_142)) hx hb hown hK hR hk_M 17 (by decide) kf_M_36 rfl hin rfl rfl (ty := .array .boolean) (by decide +kernel) (Or.inr ⟨_, rfl⟩) c_160 dM_init_73 (fun H locs hR => ?_)
  rw [← q_170] at hR
  have c_171 : mK M_169 (mS M) = 22 := by rw [q_170]; exact c_159
  have c_172 : mK M_169 a0 = 5 := by rw [q_170]; exact c_160
  have c_173 : mK M_169 (mS M_9) = 21 := by rw [q_170]; exact c_161
  have c_174 : mK M_169 (mS M_22) = 21 := by rw [q_170]; exact c_162
  have c_175 : mK M_169 (mS M_37) = 23 := by rw [q_170]; exact c_163
  have c_176 : mK M_169 (mS M_54) = 23 := by rw [q_170]; exact c_164
  have c_177 : mK M_169 (mS M_73) = 21 := by rw [q_170]; exact c_165
  have c_178 : mK M_169 (mS M_94) = 21 := by rw [q_170]; exact c_166
  have c_179 : mK M_169 (mS M_117) = 23 := by rw [q_170]; exact c_167
  have c_180 : mK M_169 (mS M_142) = 23 := by rw [q_170]; exact c_168
  refine lv_aload_n hx hb dM_init_76 rfl (lv_at hl 0 rfl) ?_
  refine lv_sipush (v := 140) hx hb dM_init_77 (by decide) ?_
  obtain ⟨c_181, h⟩ := rz_chk h
  obtain ⟨c_182, h⟩ := rz_chk h
  obtain ⟨c_183, h⟩ := rz_chk h
  obtain ⟨c_184, h⟩ := rz_chk h
  obtain ⟨M_185, q_186, h⟩ := rz_m h
  have hR0 := hR
  refine rg_newa (kd := 21) (atype := .int) (ty := .int) hx hb hK hR hRm rfl (by decide) ka_int c_181 c_182 c_183 c_184 dM_init_80 (fun H hR => ?_)
  rw [← q_186] at hR
  have c_187 : mK M_185 (mS M) = 22 := by rw [q_186]; exact kn_keep hR0 c_171 (by decide)
  have c_188 : mK M_185 a0 = 5 := by rw [q_186]; exact kn_keep hR0 c_172 (by decide)
  have c_189 : mK M_185 (mS M_9) = 21 := by rw [q_186]; exact kn_keep hR0 c_173 (by decide)
  have c_190 : mK M_185 (mS M_22) = 21 := by rw [q_186]; exact kn_keep hR0 c_174 (by decide)
  have c_191 : mK M_185 (mS M_37) = 23 := by rw [q_186]; exact kn_keep hR0 c_175 (by decide)
  have c_192 : mK M_185 (mS M_54) = 23 := by rw [q_186]; exact kn_keep hR0 c_176 (by decide)
  have c_193 : mK M_185 (mS M_73) = 21 := by rw [q_186]; exact kn_keep hR0 c_177 (by decide)
  have c_194 : mK M_185 (mS M_94) = 21 := by rw [q_186]; exact kn_keep hR0 c_178 (by decide)
  have c_195 : mK M_185 (mS M_117) = 23 := by rw [q_186]; exact kn_keep hR0 c_179 (by decide)
  have c_196 : mK M_185 (mS M_142) = 23 := by rw [q_186]; exact kn_keep hR0 c_180 (by decide)
  have c_197 : mK M_185 (mS M_169) = 21 := by rw [q_186, mK_newC, va_up_self]
  obtain ⟨M_198, q_199, h⟩ := rz_m h
  refine rg_putF (r := some (mS M_169)) hx hb hown hK hR hk_M 20 (by decide) kf_M_39 rfl hin rfl rfl (ty := .array .int) (by decide +kernel) (Or.inr ⟨_, rfl⟩) c_188 dM_init_82 (fun H locs hR => ?_)
  rw [← q_199] at hR
  have c_200 : mK M_198 (mS M) = 22 := by rw [q_199]; exact c_187
  have c_201 : mK M_198 a0 = 5 := by rw [q_199]; exact c_188
  have c_202 : mK M_198 (mS M_9) = 21 := by rw [q_199]; exact c_189
  have c_203 : mK M_198 (mS M_22) = 21 := by rw [q_199]; exact c_190
  have c_204 : mK M_198 (mS M_37) = 23 := by rw [q_199]; exact c_191
  have c_205 : mK M_198 (mS M_54) = 23 := by rw [q_199]; exact c_192
  have c_206 : mK M_198 (mS M_73) = 21 := by rw [q_199]; exact c_193
  have c_207 : mK M_198 (mS M_94) = 21 := by rw [q_199]; exact c_194
  have c_208 : mK M_198 (mS M_117) = 23 := by rw [q_199]; exact c_195
  have c_209 : mK M_198 (mS M_142) = 23 := by rw [q_199]; exact c_196
  have c_210 : mK M_198 (mS M_169) = 21 := by rw [q_199]; exact c_197
  refine lv_aload_n hx hb dM_init_85 rfl (lv_at hl 0 rfl) ?_
  refine lv_sipush (v := 140) hx hb dM_init_86 (by decide) ?_
  obtain ⟨c_211, h⟩ := rz_chk h
  obtain ⟨c_212, h⟩ := rz_chk h
  obtain ⟨c_213, h⟩ := rz_chk h
  obtain ⟨c_214, h⟩ := rz_chk h
  obtain ⟨M_215, q_216, h⟩ := rz_m h
  have hR0 := hR
  refine rg_newa (kd := 21) (atype := .int) (ty := .int) hx hb hK hR hRm rfl (by decide) ka_int c_211 c_212 c_213 c_214 dM_init_89 (fun H hR => ?_)
  rw [← q_216] at hR
  have c_217 : mK M_215 (mS M) = 22 := by rw [q_216]; exact kn_keep hR0 c_200 (by decide)
  have c_218 : mK M_215 a0 = 5 := by rw [q_216]; exact kn_keep hR0 c_201 (by decide)
  have c_219 : mK M_215 (mS M_9) = 21 := by rw [q_216]; exact kn_keep hR0 c_202 (by decide)
  have c_220 : mK M_215 (mS M_22) = 21 := by rw [q_216]; exact kn_keep hR0 c_203 (by decide)
  have c_221 : mK M_215 (mS M_37) = 23 := by rw [q_216]; exact kn_keep hR0 c_204 (by decide)
  have c_222 : mK M_215 (mS M_54) = 23 := by rw [q_216]; exact kn_keep hR0 c_205 (by decide)
  have c_223 : mK M_215 (mS M_73) = 21 := by rw [q_216]; exact kn_keep hR0 c_206 (by decide)
  have c_224 : mK M_215 (mS M_94) = 21 := by rw [q_216]; exact kn_keep hR0 c_207 (by decide)
  have c_225 : mK M_215 (mS M_117) = 23 := by rw [q_216]; exact kn_keep hR0 c_208 (by decide)
  have c_226 : mK M_215 (mS M_142) = 23 := by rw [q_216]; exact kn_keep hR0 c_209 (by decide)
  have c_227 : mK M_215 (mS M_169) = 21 := by rw [q_216]; exact kn_keep hR0 c_210 (by decide)
  have c_228 : mK M_215 (mS M_198) = 21 := by rw [q_216, mK_newC, va_up_self]
  obtain ⟨M_229, q_230, h⟩ := rz_m h
  refine rg_putF (r := some (mS M_198)) hx hb hown hK hR hk_M 21 (by decide) kf_M_42 rfl hin rfl rfl (ty := .array .int) (by decide +kernel) (Or.inr ⟨_, rfl⟩) c_218 dM_init_91 (fun H locs hR => ?_)
  rw [← q_230] at hR
  have c_231 : mK M_229 (mS M) = 22 := by rw [q_230]; exact c_217
  have c_232 : mK M_229 a0 = 5 := by rw [q_230]; exact c_218
  have c_233 : mK M_229 (mS M_9) = 21 := by rw [q_230]; exact c_219
  have c_234 : mK M_229 (mS M_22) = 21 := by rw [q_230]; exact c_220
  have c_235 : mK M_229 (mS M_37) = 23 := by rw [q_230]; exact c_221
  have c_236 : mK M_229 (mS M_54) = 23 := by rw [q_230]; exact c_222
  have c_237 : mK M_229 (mS M_73) = 21 := by rw [q_230]; exact c_223
  have c_238 : mK M_229 (mS M_94) = 21 := by rw [q_230]; exact c_224
  have c_239 : mK M_229 (mS M_117) = 23 := by rw [q_230]; exact c_225
  have c_240 : mK M_229 (mS M_142) = 23 := by rw [q_230]; exact c_226
  have c_241 : mK M_229 (mS M_169) = 21 := by rw [q_230]; exact c_227
  have c_242 : mK M_229 (mS M_198) = 21 := by rw [q_230]; exact c_228
  refine lv_aload_n hx hb dM_init_94 rfl (lv_at hl 0 rfl) ?_
  refine lv_sipush (v := 140) hx hb dM_init_95 (by decide) ?_
  obtain ⟨c_243, h⟩ := rz_chk h
  obtain ⟨c_244, h⟩ := rz_chk h
  obtain ⟨c_245, h⟩ := rz_chk h
  obtain ⟨c_246, h⟩ := rz_chk h
  obtain ⟨M_247, q_248, h⟩ := rz_m h
  have hR0 := hR
  refine rg_newa (kd := 21) (atype := .int) (ty := .int) hx hb hK hR hRm rfl (by decide) ka_int c_243 c_244 c_245 c_246 dM_init_98 (fun H hR => ?_)
  rw [← q_248] at hR
  have c_249 : mK M_247 (mS M) = 22 := by rw [q_248]; exact kn_keep hR0 c_231 (by decide)
  have c_250 : mK M_247 a0 = 5 := by rw [q_248]; exact kn_keep hR0 c_232 (by decide)
  have c_251 : mK M_247 (mS M_9) = 21 := by rw [q_248]; exact kn_keep hR0 c_233 (by decide)
  have c_252 : mK M_247 (mS M_22) = 21 := by rw [q_248]; exact kn_keep hR0 c_234 (by decide)
  have c_253 : mK M_247 (mS M_37) = 23 := by rw [q_248]; exact kn_keep hR0 c_235 (by decide)
  have c_254 : mK M_247 (mS M_54) = 23 := by rw [q_248]; exact kn_keep hR0 c_236 (by decide)
  have c_255 : mK M_247 (mS M_73) = 21 := by rw [q_248]; exact kn_keep hR0 c_237 (by decide)
  have c_256 : mK M_247 (mS M_94) = 21 := by rw [q_248]; exact kn_keep hR0 c_238 (by decide)
  have c_257 : mK M_247 (mS M_117) = 23 := by rw [q_248]; exact kn_keep hR0 c_239 (by decide)
  have c_258 : mK M_247 (mS M_142) = 23 := by rw [q_248]; exact kn_keep hR0 c_240 (by decide)
  have c_259 : mK M_247 (mS M_169) = 21 := by rw [q_248]; exact kn_keep hR0 c_241 (by decide)
  have c_260 : mK M_247 (mS M_198) = 21 := by rw [q_248]; exact kn_keep hR0 c_242 (by decide)
  have c_261 : mK M_247 (mS M_229) = 21 := by rw [q_248, mK_newC, va_up_self]
  obtain ⟨M_262, q_263, h⟩ := rz_m h
  refine rg_putF (r := some (mS M_229)) hx hb hown hK hR hk_M 22 (by decide) kf_M_45 rfl hin rfl rfl (ty := .array .int) (by decide +kernel) (Or.inr ⟨_, rfl⟩) c_250 dM_init_100 (fun H locs hR => ?_)
  rw [← q_263] at hR
  have c_264 : mK M_262 (mS M) = 22 := by rw [q_263]; exact c_249
  have c_265 : mK M_262 a0 = 5 := by rw [q_263]; exact c_250
  have c_266 : mK M_262 (mS M_9) = 21 := by rw [q_263]; exact c_251
  have c_267 : mK M_262 (mS M_22) = 21 := by rw [q_263]; exact c_252
  have c_268 : mK M_262 (mS M_37) = 23 := by rw [q_263]; exact c_253
  have c_269 : mK M_262 (mS M_54) = 23 := by rw [q_263]; exact c_254
  have c_270 : mK M_262 (mS M_73) = 21 := by rw [q_263]; exact c_255
  have c_271 : mK M_262 (mS M_94) = 21 := by rw [q_263]; exact c_256
  have c_272 : mK M_262 (mS M_117) = 23 := by rw [q_263]; exact c_257
  have c_273 : mK M_262 (mS M_142) = 23 := by rw [q_263]; exact c_258
  have c_274 : mK M_262 (mS M_169) = 21 := by rw [q_263]; exact c_259
  have c_275 : mK M_262 (mS M_198) = 21 := by rw [q_263]; exact c_260
  have c_276 : mK M_262 (mS M_229) = 21 := by rw [q_263]; exact c_261
  refine lv_aload_n hx hb dM_init_103 rfl (lv_at hl 0 rfl) ?_
  refine lv_bipush (v := 6) hx hb dM_init_104 (by decide) ?_
  obtain ⟨c_277, h⟩ := rz_chk h
  obtain ⟨c_278, h⟩ := rz_chk h
  obtain ⟨c_279, h⟩ := rz_chk h
  obtain ⟨c_280, h⟩ := rz_chk h
  obtain ⟨M_281, q_282, h⟩ := rz_m h
  have hR0 := hR
  refine rg_newa (kd := 21) (atype := .int) (ty := .int) hx hb hK hR hRm rfl (by decide) ka_int c_277 c_278 c_279 c_280 dM_init_106 (fun H hR => ?_)
  rw [← q_282] at hR
  have c_283 : mK M_281 (mS M) = 22 := by rw [q_282]; exact kn_keep hR0 c_264 (by decide)
  have c_284 : mK M_281 a0 = 5 := by rw [q_282]; exact kn_keep hR0 c_265 (by decide)
  have c_285 : mK M_281 (mS M_9) = 21 := by rw [q_282]; exact kn_keep hR0 c_266 (by decide)
  have c_286 : mK M_281 (mS M_22) = 21 := by rw [q_282]; exact kn_keep hR0 c_267 (by decide)
  have c_287 : mK M_281 (mS M_37) = 23 := by rw [q_282]; exact kn_keep hR0 c_268 (by decide)
  have c_288 : mK M_281 (mS M_54) = 23 := by rw [q_282]; exact kn_keep hR0 c_269 (by decide)
  have c_289 : mK M_281 (mS M_73) = 21 := by rw [q_282]; exact kn_keep hR0 c_270 (by decide)
  have c_290 : mK M_281 (mS M_94) = 21 := by rw [q_282]; exact kn_keep hR0 c_271 (by decide)
  have c_291 : mK M_281 (mS M_117) = 23 := by rw [q_282]; exact kn_keep hR0 c_272 (by decide)
  have c_292 : mK M_281 (mS M_142) = 23 := by rw [q_282]; exact kn_keep hR0 c_273 (by decide)
  have c_293 : mK M_281 (mS M_169) = 21 := by rw [q_282]; exact kn_keep hR0 c_274 (by decide)
  have c_294 : mK M_281 (mS M_198) = 21 := by rw [q_282]; exact kn_keep hR0 c_275 (by decide)
  have c_295 : mK M_281 (mS M_229) = 21 := by rw [q_282]; exact kn_keep hR0 c_276 (by decide)
  have c_296 : mK M_281 (mS M_262) = 21 := by rw [q_282, mK_newC, va_up_self]
  obtain ⟨M_297, q_298, h⟩ := rz_m h
  refine rg_putF (r := some (mS M_262)) hx hb hown hK hR hk_M 23 (by decide) kf_M_48 rfl hin rfl rfl (ty := .array .int) (by decide +kernel) (Or.inr ⟨_, rfl⟩) c_284 dM_init_108 (fun H locs hR => ?_)
  rw [← q_298] at hR
  have c_299 : mK M_297 (mS M) = 22 := by rw [q_298]; exact c_283
  have c_300 : mK M_297 a0 = 5 := by rw [q_298]; exact c_284
  have c_301 : mK M_297 (mS M_9) = 21 := by rw [q_298]; exact c_285
  have c_302 : mK M_297 (mS M_22) = 21 := by rw [q_298]; exact c_286
  have c_303 : mK M_297 (mS M_37) = 23 := by rw [q_298]; exact c_287
  have c_304 : mK M_297 (mS M_54) = 23 := by rw [q_298]; exact c_288
  have c_305 : mK M_297 (mS M_73) = 21 := by rw [q_298]; exact c_289
  have c_306 : mK M_297 (mS M_94) = 21 := by rw [q_298]; exact c_290
  have c_307 : mK M_297 (mS M_117) = 23 := by rw [q_298]; exact c_291
  have c_308 : mK M_297 (mS M_142) = 23 := by rw [q_298]; exact c_292
  have c_309 : mK M_297 (mS M_169) = 21 := by rw [q_298]; exact c_293
  have c_310 : mK M_297 (mS M_198) = 21 := by rw [q_298]; exact c_294
  have c_311 : mK M_297 (mS M_229) = 21 := by rw [q_298]; exact c_295
  have c_312 : mK M_297 (mS M_262) = 21 := by rw [q_298]; exact c_296
  refine lv_aload_n hx hb dM_init_111 rfl (lv_at hl 0 rfl) ?_
  refine lv_iconst (v := 4) hx hb dM_init_112 (by decide) ?_
  obtain ⟨c_313, h⟩ := rz_chk h
  obtain ⟨c_314, h⟩ := rz_chk h
  obtain ⟨c_315, h⟩ := rz_chk h
  obtain ⟨c_316, h⟩ := rz_chk h
  obtain ⟨M_317, q_318, h⟩ := rz_m h
  have hR0 := hR
  refine rg_newa (kd := 21) (atype := .int) (ty := .int) hx hb hK hR hRm rfl (by decide) ka_int c_313 c_314 c_315 c_316 dM_init_113 (fun H hR => ?_)
  rw [← q_318] at hR
  have c_319 : mK M_317 (mS M) = 22 := by rw [q_318]; exact kn_keep hR0 c_299 (by decide)
  have c_320 : mK M_317 a0 = 5 := by rw [q_318]; exact kn_keep hR0 c_300 (by decide)
  have c_321 : mK M_317 (mS M_9) = 21 := by rw [q_318]; exact kn_keep hR0 c_301 (by decide)
  have c_322 : mK M_317 (mS M_22) = 21 := by rw [q_318]; exact kn_keep hR0 c_302 (by decide)
  have c_323 : mK M_317 (mS M_37) = 23 := by rw [q_318]; exact kn_keep hR0 c_303 (by decide)
  have c_324 : mK M_317 (mS M_54) = 23 := by rw [q_318]; exact kn_keep hR0 c_304 (by decide)
  have c_325 : mK M_317 (mS M_73) = 21 := by rw [q_318]; exact kn_keep hR0 c_305 (by decide)
  have c_326 : mK M_317 (mS M_94) = 21 := by rw [q_318]; exact kn_keep hR0 c_306 (by decide)
  have c_327 : mK M_317 (mS M_117) = 23 := by rw [q_318]; exact kn_keep hR0 c_307 (by decide)
  have c_328 : mK M_317 (mS M_142) = 23 := by rw [q_318]; exact kn_keep hR0 c_308 (by decide)
  have c_329 : mK M_317 (mS M_169) = 21 := by rw [q_318]; exact kn_keep hR0 c_309 (by decide)
  have c_330 : mK M_317 (mS M_198) = 21 := by rw [q_318]; exact kn_keep hR0 c_310 (by decide)
  have c_331 : mK M_317 (mS M_229) = 21 := by rw [q_318]; exact kn_keep hR0 c_311 (by decide)
  have c_332 : mK M_317 (mS M_262) = 21 := by rw [q_318]; exact kn_keep hR0 c_312 (by decide)
  have c_333 : mK M_317 (mS M_297) = 21 := by rw [q_318, mK_newC, va_up_self]
  obtain ⟨M_334, q_335, h⟩ := rz_m h
  refine rg_putF (r := some (mS M_297)) hx hb hown hK hR hk_M 36 (by decide) kf_M_51 rfl hin rfl rfl (ty := .array .int) (by decide +kernel) (Or.inr ⟨_, rfl⟩) c_320 dM_init_115 (fun H locs hR => ?_)
  rw [← q_335] at hR
  have c_336 : mK M_334 (mS M) = 22 := by rw [q_335]; exact c_319
  have c_337 : mK M_334 a0 = 5 := by rw [q_335]; exact c_320
  have c_338 : mK M_334 (mS M_9) = 21 := by rw [q_335]; exact c_321
  have c_339 : mK M_334 (mS M_22) = 21 := by rw [q_335]; exact c_322
  have c_340 : mK M_334 (mS M_37) = 23 := by rw [q_335]; exact c_323
  have c_341 : mK M_334 (mS M_54) = 23 := by rw [q_335]; exact c_324
  have c_342 : mK M_334 (mS M_73) = 21 := by rw [q_335]; exact c_325
  have c_343 : mK M_334 (mS M_94) = 21 := by rw [q_335]; exact c_326
  have c_344 : mK M_334 (mS M_117) = 23 := by rw [q_335]; exact c_327
  have c_345 : mK M_334 (mS M_142) = 23 := by rw [q_335]; exact c_328
  have c_346 : mK M_334 (mS M_169) = 21 := by rw [q_335]; exact c_329
  have c_347 : mK M_334 (mS M_198) = 21 := by rw [q_335]; exact c_330
  have c_348 : mK M_334 (mS M_229) = 21 := by rw [q_335]; exact c_331
  have c_349 : mK M_334 (mS M_262) = 21 := by rw [q_335]; exact c_332
  have c_350 : mK M_334 (mS M_297) = 21 := by rw [q_335]; exact c_333
  refine lv_aload_n hx hb dM_init_118 rfl (lv_at hl 0 rfl) ?_
  refine lv_iconst (v := 4) hx hb dM_init_119 (by decide) ?_
  obtain ⟨c_351, h⟩ := rz_chk h
  obtain ⟨c_352, h⟩ := rz_chk h
  obtain ⟨c_353, h⟩ := rz_chk h
  obtain ⟨c_354, h⟩ := rz_chk h
  obtain ⟨M_355, q_356, h⟩ := rz_m h
  have hR0 := hR
  refine rg_newa (kd := 21) (atype := .int) (ty := .int) hx hb hK hR hRm rfl (by decide) ka_int c_351 c_352 c_353 c_354 dM_init_120 (fun H hR => ?_)
  rw [← q_356] at hR
  have c_357 : mK M_355 (mS M) = 22 := by rw [q_356]; exact kn_keep hR0 c_336 (by decide)
  have c_358 : mK M_355 a0 = 5 := by rw [q_356]; exact kn_keep hR0 c_337 (by decide)
  have c_359 : mK M_355 (mS M_9) = 21 := by rw [q_356]; exact kn_keep hR0 c_338 (by decide)
  have c_360 : mK M_355 (mS M_22) = 21 := by rw [q_356]; exact kn_keep hR0 c_339 (by decide)
  have c_361 : mK M_355 (mS M_37) = 23 := by rw [q_356]; exact kn_keep hR0 c_340 (by decide)
  have c_362 : mK M_355 (mS M_54) = 23 := by rw [q_356]; exact kn_keep hR0 c_341 (by decide)
  have c_363 : mK M_355 (mS M_73) = 21 := by rw [q_356]; exact kn_keep hR0 c_342 (by decide)
  have c_364 : mK M_355 (mS M_94) = 21 := by rw [q_356]; exact kn_keep hR0 c_343 (by decide)
  have c_365 : mK M_355 (mS M_117) = 23 := by rw [q_356]; exact kn_keep hR0 c_344 (by decide)
  have c_366 : mK M_355 (mS M_142) = 23 := by rw [q_356]; exact kn_keep hR0 c_345 (by decide)
  have c_367 : mK M_355 (mS M_169) = 21 := by rw [q_356]; exact kn_keep hR0 c_346 (by decide)
  have c_368 : mK M_355 (mS M_198) = 21 := by rw [q_356]; exact kn_keep hR0 c_347 (by decide)
  have c_369 : mK M_355 (mS M_229) = 21 := by rw [q_356]; exact kn_keep hR0 c_348 (by decide)
  have c_370 : mK M_355 (mS M_262) = 21 := by rw [q_356]; exact kn_keep hR0 c_349 (by decide)
  have c_371 : mK M_355 (mS M_297) = 21 := by rw [q_356]; exact kn_keep hR0 c_350 (by decide)
  have c_372 : mK M_355 (mS M_334) = 21 := by rw [q_356, mK_newC, va_up_self]
  obtain ⟨M_373, q_374, h⟩ := rz_m h
  refine rg_putF (r := some (mS M_334)) hx hb hown hK hR hk_M 37 (by decide) kf_M_54 rfl hin rfl rfl (ty := .array .int) (by decide +kernel) (Or.inr ⟨_, rfl⟩) c_358 dM_init_122 (fun H locs hR => ?_)
  rw [← q_374] at hR
  have c_375 : mK M_373 (mS M) = 22 := by rw [q_374]; exact c_357
  have c_376 : mK M_373 a0 = 5 := by rw [q_374]; exact c_358
  have c_377 : mK M_373 (mS M_9) = 21 := by rw [q_374]; exact c_359
  have c_378 : mK M_373 (mS M_22) = 21 := by rw [q_374]; exact c_360
  have c_379 : mK M_373 (mS M_37) = 23 := by rw [q_374]; exact c_361
  have c_380 : mK M_373 (mS M_54) = 23 := by rw [q_374]; exact c_362
  have c_381 : mK M_373 (mS M_73) = 21 := by rw [q_374]; exact c_363
  have c_382 : mK M_373 (mS M_94) = 21 := by rw [q_374]; exact c_364
  have c_383 : mK M_373 (mS M_117) = 23 := by rw [q_374]; exact c_365
  have c_384 : mK M_373 (mS M_142) = 23 := by rw [q_374]; exact c_366
  have c_385 : mK M_373 (mS M_169) = 21 := by rw [q_374]; exact c_367
  have c_386 : mK M_373 (mS M_198) = 21 := by rw [q_374]; exact c_368
  have c_387 : mK M_373 (mS M_229) = 21 := by rw [q_374]; exact c_369
  have c_388 : mK M_373 (mS M_262) = 21 := by rw [q_374]; exact c_370
  have c_389 : mK M_373 (mS M_297) = 21 := by rw [q_374]; exact c_371
  have c_390 : mK M_373 (mS M_334) = 21 := by rw [q_374]; exact c_372
  refine lv_aload_n hx hb dM_init_125 rfl (lv_at hl 0 rfl) ?_
  refine lv_sipush (v := 260) hx hb dM_init_126 (by decide) ?_
  obtain ⟨c_391, h⟩ := rz_chk h
  obtain ⟨c_392, h⟩ := rz_chk h
  obtain ⟨c_393, h⟩ := rz_chk h
  obtain ⟨c_394, h⟩ := rz_chk h
  obtain ⟨M_395, q_396, h⟩ := rz_m h
  have hR0 := hR
  refine rg_newa (kd := 21) (atype := .int) (ty := .int) hx hb hK hR hRm rfl (by decide) ka_int c_391 c_392 c_393 c_394 dM_init_129 (fun H hR => ?_)
  rw [← q_396] at hR
  have c_397 : mK M_395 (mS M) = 22 := by rw [q_396]; exact kn_keep hR0 c_375 (by decide)
  have c_398 : mK M_395 a0 = 5 := by rw [q_396]; exact kn_keep hR0 c_376 (by decide)
  have c_399 : mK M_395 (mS M_9) = 21 := by rw [q_396]; exact kn_keep hR0 c_377 (by decide)
  have c_400 : mK M_395 (mS M_22) = 21 := by rw [q_396]; exact kn_keep hR0 c_378 (by decide)
  have c_401 : mK M_395 (mS M_37) = 23 := by rw [q_396]; exact kn_keep hR0 c_379 (by decide)
  have c_402 : mK M_395 (mS M_54) = 23 := by rw [q_396]; exact kn_keep hR0 c_380 (by decide)
  have c_403 : mK M_395 (mS M_73) = 21 := by rw [q_396]; exact kn_keep hR0 c_381 (by decide)
  have c_404 : mK M_395 (mS M_94) = 21 := by rw [q_396]; exact kn_keep hR0 c_382 (by decide)
  have c_405 : mK M_395 (mS M_117) = 23 := by rw [q_396]; exact kn_keep hR0 c_383 (by decide)
  have c_406 : mK M_395 (mS M_142) = 23 := by rw [q_396]; exact kn_keep hR0 c_384 (by decide)
  have c_407 : mK M_395 (mS M_169) = 21 := by rw [q_396]; exact kn_keep hR0 c_385 (by decide)
  have c_408 : mK M_395 (mS M_198) = 21 := by rw [q_396]; exact kn_keep hR0 c_386 (by decide)
  have c_409 : mK M_395 (mS M_229) = 21 := by rw [q_396]; exact kn_keep hR0 c_387 (by decide)
  have c_410 : mK M_395 (mS M_262) = 21 := by rw [q_396]; exact kn_keep hR0 c_388 (by decide)
  have c_411 : mK M_395 (mS M_297) = 21 := by rw [q_396]; exact kn_keep hR0 c_389 (by decide)
  have c_412 : mK M_395 (mS M_334) = 21 := by rw [q_396]; exact kn_keep hR0 c_390 (by decide)
  have c_413 : mK M_395 (mS M_373) = 21 := by rw [q_396, mK_newC, va_up_self]
  obtain ⟨M_414, q_415, h⟩ := rz_m h
  refine rg_putF (r := some (mS M_373)) hx hb hown hK hR hk_M 39 (by decide) kf_M_57 rfl hin rfl rfl (ty := .array .int) (by decide +kernel) (Or.inr ⟨_, rfl⟩) c_398 dM_init_131 (fun H locs hR => ?_)
  rw [← q_415] at hR
  have c_416 : mK M_414 (mS M) = 22 := by rw [q_415]; exact c_397
  have c_417 : mK M_414 a0 = 5 := by rw [q_415]; exact c_398
  have c_418 : mK M_414 (mS M_9) = 21 := by rw [q_415]; exact c_399
  have c_419 : mK M_414 (mS M_22) = 21 := by rw [q_415]; exact c_400
  have c_420 : mK M_414 (mS M_37) = 23 := by rw [q_415]; exact c_401
  have c_421 : mK M_414 (mS M_54) = 23 := by rw [q_415]; exact c_402
  have c_422 : mK M_414 (mS M_73) = 21 := by rw [q_415]; exact c_403
  have c_423 : mK M_414 (mS M_94) = 21 := by rw [q_415]; exact c_404
  have c_424 : mK M_414 (mS M_117) = 23 := by rw [q_415]; exact c_405
  have c_425 : mK M_414 (mS M_142) = 23 := by rw [q_415]; exact c_406
  have c_426 : mK M_414 (mS M_169) = 21 := by rw [q_415]; exact c_407
  have c_427 : mK M_414 (mS M_198) = 21 := by rw [q_415]; exact c_408
  have c_428 : mK M_414 (mS M_229) = 21 := by rw [q_415]; exact c_409
  have c_429 : mK M_414 (mS M_262) = 21 := by rw [q_415]; exact c_410
  have c_430 : mK M_414 (mS M_297) = 21 := by rw [q_415]; exact c_411
  have c_431 : mK M_414 (mS M_334) = 21 := by rw [q_415]; exact c_412
  have c_432 : mK M_414 (mS M_373) = 21 := by rw [q_415]; exact c_413
  cases h
  exact rt_v hx hb hlk hrt hR dM_init_134
set_option maxRecDepth 100000 in
set_option maxHeartbeats 4000000 in
theorem sM_init {l : Launch} {G : Gx} {n d : Nat} {C : Cx} (hC : CBs l G d C) (a0 : Nat) {M M' : Mem} {r : Option Value ⊕ Nat} (h : fM_init_0 n d C a0 M = some (r, M')) : CB l G (d + 1) yM_init [.ref a0] M r M' := by
  intro p e R s m below meth c hx hn hm hc hlk hK hR hcap hS hU hfr hlo hrc hrs
  obtain ⟨hb, hml, hrt, hex, hown⟩ := fx_of hn hm hc (hK.w mfM_init.2.2.1 rfl #[])
  have F : FX p s m meth c G R M d "HeadCountModel" bM_init 1 none := ⟨hx, hb, hml, hown, hrt, hlk, hex, hK, hfr, hlo, by rw [← hcap]; exact hrc, hrs⟩
  rw [hml]
  have hl := lv_entry ([.ref a0]) (n := 1) (by simp [lg_sl, cat_rf, cat_i, cat_a, cat_l, cat_n])
  rw [lg_entry_eq]
  generalize (lg_sl ([.ref a0]) ++ List.replicate (1 - (lg_sl ([.ref a0])).length) Slot.unset).toArray = ls at hl ⊢
  have hl : lv_has ls 1 [(0, .ref a0)] := by simpa [lv_args, cat_rf, cat_i, cat_a, cat_l, cat_n] using hl
  exact tM_init_0 F (name_of_methodNamed hn hm).1 hC a0 _ _ _ _ _ _ h (RL.start hR hcap hS hU) (lv_sub hl [0] rfl)
def fM_thrown_0 (n d : Nat) (C : Cx) (a0 : Nat) (M : Mem) : Rz := if mK M a0 = 5 then (some (.inl (some (.int (mI M a0 0))), M)) else none
set_option maxRecDepth 100000 in
set_option maxHeartbeats 4000000 in
theorem tM_thrown_0 {n : Nat} (F : FX p s m meth c G R M0 d "HeadCountModel" bM_thrown 1 (some .int)) (hC : CBs l G d C) : ∀ (a0 : Nat) (M : Mem) (H : Heap) (locs : List Loc) (cells slots : Nat) (ls : Array Slot), fM_thrown_0 n d C a0 M = some (r, M') → RL G M0 M H locs cells slots → lv_has ls 1 [(0, .ref a0)] → W p l e R s m args below meth c H locs cells slots (CQ G below s M0 r M') (F0 m 0 ls []) := by
  obtain ⟨hx, hb, hml, hown, hrt, hlk, hex, hK, hRm⟩ := id F
  intro a0 M H locs cells slots ls h hR hl
  unfold fM_thrown_0 at h
  refine lv_aload_n hx hb dM_thrown_0 rfl (lv_at hl 0 rfl) ?_
  obtain ⟨c_1, h⟩ := rz_chk h
  refine rg_getI hx hb hown hK hR hk_M 0 (by decide) kf_M_60 rfl c_1 dM_thrown_1 ?_
  cases h
  exact rt_i hx hb hlk hrt (Or.inl rfl) rfl hR dM_thrown_4
set_option maxRecDepth 100000 in
set_option maxHeartbeats 4000000 in
theorem sM_thrown {l : Launch} {G : Gx} {n d : Nat} {C : Cx} (hC : CBs l G d C) (a0 : Nat) {M M' : Mem} {r : Option Value ⊕ Nat} (h : fM_thrown_0 n d C a0 M = some (r, M')) : CB l G (d + 1) yM_thrown [.ref a0] M r M' := by
  intro p e R s m below meth c hx hn hm hc hlk hK hR hcap hS hU hfr hlo hrc hrs
  obtain ⟨hb, hml, hrt, hex, hown⟩ := fx_of hn hm hc (hK.w mfM_thrown.2.2.1 rfl #[])
  have F : FX p s m meth c G R M d "HeadCountModel" bM_thrown 1 (some .int) := ⟨hx, hb, hml, hown, hrt, hlk, hex, hK, hfr, hlo, by rw [← hcap]; exact hrc, hrs⟩
  rw [hml]
  have hl := lv_entry ([.ref a0]) (n := 1) (by simp [lg_sl, cat_rf, cat_i, cat_a, cat_l, cat_n])
  rw [lg_entry_eq]
  generalize (lg_sl ([.ref a0]) ++ List.replicate (1 - (lg_sl ([.ref a0])).length) Slot.unset).toArray = ls at hl ⊢
  have hl : lv_has ls 1 [(0, .ref a0)] := by simpa [lv_args, cat_rf, cat_i, cat_a, cat_l, cat_n] using hl
  exact tM_thrown_0 F hC a0 _ _ _ _ _ _ h (RL.start hR hcap hS hU) (lv_sub hl [0] rfl)
def fM_write_50 (n d : Nat) (C : Cx) (M : Mem) : Rz := if fits .boolean (.int 0) = true then (some (.inl (some (.int 0)), M)) else none
set_option maxRecDepth 100000 in
set_option maxHeartbeats 4000000 in
theorem tM_write_50 {n : Nat} (F : FX p s m meth c G R M0 d "HeadCountModel" bM_write 6 (some .boolean)) (hC : CBs l G d C) : ∀ (M : Mem) (H : Heap) (locs : List Loc) (cells slots : Nat) (ls : Array Slot), fM_write_50 n d C M = some (r, M') → RL G M0 M H locs cells slots → lv_has ls 6 [] → W p l e R s m args below meth c H locs cells slots (CQ G below s M0 r M') (F0 m 50 ls []) := by
  obtain ⟨hx, hb, hml, hown, hrt, hlk, hex, hK, hRm⟩ := id F
  intro M H locs cells slots ls h hR hl
  unfold fM_write_50 at h
  refine lv_iconst (v := 0) hx hb dM_write_50 (by decide) ?_
  obtain ⟨c_1, h⟩ := rz_chk h
  cases h
  exact rt_i hx hb hlk hrt (Or.inr (Or.inr rfl)) c_1 hR dM_write_51
def fM_write_63 (n d : Nat) (C : Cx) (k10 : Nat → Int64 → Int32 → Int32 → Mem → Rz) (a0 : Nat) (l1 : Int64) (x4 : Int32) (xs0 : Int32) (xs1 : Int32) (M : Mem) : Rz := k10 a0 l1 (xs1 + xs0) (x4 + 1) M
set_option maxRecDepth 100000 in
set_option maxHeartbeats 4000000 in
theorem tM_write_63 {n : Nat} {k10 : Nat → Int64 → Int32 → Int32 → Mem → Rz} (F : FX p s m meth c G R M0 d "HeadCountModel" bM_write 6 (some .boolean)) (hC : CBs l G d C) (hk10 : ∀ (a0 : Nat) (l1 : Int64) (x3 : Int32) (x4 : Int32) (M : Mem) (H : Heap) (locs : List Loc) (cells slots : Nat) (ls : Array Slot), k10 a0 l1 x3 x4 M = some (r, M') → RL G M0 M H locs cells slots → lv_has ls 6 [(0, .ref a0), (1, .long l1), (3, .int x3), (4, .int x4)] → W p l e R s m args below meth c H locs cells slots (CQ G below s M0 r M') (F0 m 10 ls [])) : ∀ (a0 : Nat) (l1 : Int64) (x4 : Int32) (xs0 : Int32) (xs1 : Int32) (M : Mem) (H : Heap) (locs : List Loc) (cells slots : Nat) (ls : Array Slot), fM_write_63 n d C k10 a0 l1 x4 xs0 xs1 M = some (r, M') → RL G M0 M H locs cells slots → lv_has ls 6 [(0, .ref a0), (1, .long l1), (4, .int x4)] → W p l e R s m args below meth c H locs cells slots (CQ G below s M0 r M') (F0 m 63 ls [.int xs0, .int xs1]) := by
  obtain ⟨hx, hb, hml, hown, hrt, hlk, hex, hK, hRm⟩ := id F
  intro a0 l1 x4 xs0 xs1 M H locs cells slots ls h hR hl
  unfold fM_write_63 at h
  refine lv_iadd hx hb dM_write_63 ?_
  refine lv_istore_n (lv' := [(3, .int (xs1 + xs0)), (0, .ref a0), (1, .long l1), (4, .int x4)]) hx hb dM_write_64 rfl hl (by decide) rfl (fun ls hl => ?_)
  refine lv_iinc (k := 3) (v := x4 + 1) (lv' := [(4, .int (x4 + 1)), (3, .int (xs1 + xs0)), (0, .ref a0), (1, .long l1)]) hx hb dM_write_65 hl rfl (by rw [show Int32.ofInt 1 = 1 from by decide]) (by decide) rfl (fun ls hl => ?_)
  refine lv_goto (tgt := 10) hx hb dM_write_68 (by decide) ?_
  exact hk10 a0 l1 (xs1 + xs0) (x4 + 1) _ _ _ _ _ _ h hR (lv_sub hl [2, 3, 1, 0] rfl)
def fM_write_52 (n d : Nat) (C : Cx) (k10 : Nat → Int64 → Int32 → Int32 → Mem → Rz) (a0 : Nat) (l1 : Int64) (x3 : Int32) (x4 : Int32) (x5 : Int32) (M : Mem) : Rz := if x5 = 0 then (fM_write_63 n d C k10 a0 l1 x4 0 x3 M) else (fM_write_63 n d C k10 a0 l1 x4 1 x3 M)
set_option maxRecDepth 100000 in
set_option maxHeartbeats 4000000 in
theorem tM_write_52 {n : Nat} {k10 : Nat → Int64 → Int32 → Int32 → Mem → Rz} (F : FX p s m meth c G R M0 d "HeadCountModel" bM_write 6 (some .boolean)) (hC : CBs l G d C) (hk10 : ∀ (a0 : Nat) (l1 : Int64) (x3 : Int32) (x4 : Int32) (M : Mem) (H : Heap) (locs : List Loc) (cells slots : Nat) (ls : Array Slot), k10 a0 l1 x3 x4 M = some (r, M') → RL G M0 M H locs cells slots → lv_has ls 6 [(0, .ref a0), (1, .long l1), (3, .int x3), (4, .int x4)] → W p l e R s m args below meth c H locs cells slots (CQ G below s M0 r M') (F0 m 10 ls [])) : ∀ (a0 : Nat) (l1 : Int64) (x3 : Int32) (x4 : Int32) (x5 : Int32) (M : Mem) (H : Heap) (locs : List Loc) (cells slots : Nat) (ls : Array Slot), fM_write_52 n d C k10 a0 l1 x3 x4 x5 M = some (r, M') → RL G M0 M H locs cells slots → lv_has ls 6 [(0, .ref a0), (1, .long l1), (3, .int x3), (4, .int x4), (5, .int x5)] → W p l e R s m args below meth c H locs cells slots (CQ G below s M0 r M') (F0 m 52 ls []) := by
  obtain ⟨hx, hb, hml, hown, hrt, hlk, hex, hK, hRm⟩ := id F
  intro a0 l1 x3 x4 x5 M H locs cells slots ls h hR hl
  unfold fM_write_52 at h
  refine lv_iload_n hx hb dM_write_52 rfl (lv_at hl 2 rfl) ?_
  refine lv_iload hx hb dM_write_53 (lv_at hl 4 rfl) ?_
  refine lv_if_ne (tgt := 62) hx hb dM_write_55 (by decide) (fun c_1 => ?_) (fun c_1 => ?_)
  · replace h := rz_f c_1 h
    refine lv_iconst (v := 1) hx hb dM_write_62 (by decide) ?_
    exact tM_write_63 F hC hk10 a0 l1 x4 1 x3 _ _ _ _ _ _ h hR (lv_sub hl [0, 1, 3] rfl)
  · replace h := rz_t c_1 h
    refine lv_iconst (v := 0) hx hb dM_write_58 (by decide) ?_
    refine lv_goto (tgt := 63) hx hb dM_write_59 (by decide) ?_
    exact tM_write_63 F hC hk10 a0 l1 x4 0 x3 _ _ _ _ _ _ h hR (lv_sub hl [0, 1, 3] rfl)
def fM_write_135 (n d : Nat) (C : Cx) (k87 : Nat → Int64 → Int32 → Mem → Rz) (a0 : Nat) (l1 : Int64) (x4 : Int32) (M : Mem) : Rz := k87 a0 l1 (x4 + 1) M
set_option maxRecDepth 100000 in
set_option maxHeartbeats 4000000 in
theorem tM_write_135 {n : Nat} {k87 : Nat → Int64 → Int32 → Mem → Rz} (F : FX p s m meth c G R M0 d "HeadCountModel" bM_write 6 (some .boolean)) (hC : CBs l G d C) (hk87 : ∀ (a0 : Nat) (l1 : Int64) (x4 : Int32) (M : Mem) (H : Heap) (locs : List Loc) (cells slots : Nat) (ls : Array Slot), k87 a0 l1 x4 M = some (r, M') → RL G M0 M H locs cells slots → lv_has ls 6 [(0, .ref a0), (1, .long l1), (4, .int x4)] → W p l e R s m args below meth c H locs cells slots (CQ G below s M0 r M') (F0 m 87 ls [])) : ∀ (a0 : Nat) (l1 : Int64) (x4 : Int32) (M : Mem) (H : Heap) (locs : List Loc) (cells slots : Nat) (ls : Array Slot), fM_write_135 n d C k87 a0 l1 x4 M = some (r, M') → RL G M0 M H locs cells slots → lv_has ls 6 [(0, .ref a0), (1, .long l1), (4, .int x4)] → W p l e R s m args below meth c H locs cells slots (CQ G below s M0 r M') (F0 m 135 ls []) := by
  obtain ⟨hx, hb, hml, hown, hrt, hlk, hex, hK, hRm⟩ := id F
  intro a0 l1 x4 M H locs cells slots ls h hR hl
  unfold fM_write_135 at h
  refine lv_iinc (k := 2) (v := x4 + 1) (lv' := [(4, .int (x4 + 1)), (0, .ref a0), (1, .long l1)]) hx hb dM_write_135 hl rfl (by rw [show Int32.ofInt 1 = 1 from by decide]) (by decide) rfl (fun ls hl => ?_)
  refine lv_goto (tgt := 87) hx hb dM_write_138 (by decide) ?_
  exact hk87 a0 l1 (x4 + 1) _ _ _ _ _ _ h hR (lv_sub hl [1, 2, 0] rfl)
def fM_write_87 (n d : Nat) (C : Cx) : Nat → Nat → Int64 → Int32 → Mem → Rz
  | 0, _, _, _, _ => none
  | w + 1, a0, l1, x4, M => if 8 ≤ x4 then (if fits .boolean (.int 1) = true then (some (.inl (some (.int 1)), M)) else none) else (if (((l1 >>> ((8 * x4).toInt64 &&& 63)) &&& 255).toInt32) = 0 then (fM_write_135 n d C (fM_write_87 n d C w) a0 l1 x4 M) else (if mK M a0 = 5 then (rzD (mP M a0 2) fun a_5 => (if mK M a_5 = 22 then (if inA (mI M a0 1) (mL M a_5) then (if fits .char (.int (((((l1 >>> ((8 * x4).toInt64 &&& 63)) &&& 255).toInt32).toUInt32 % 65536).toInt32)) = true then (rzM (setI M a_5 (mI M a0 1).toNatClampNeg (((((l1 >>> ((8 * x4).toInt64 &&& 63)) &&& 255).toInt32).toUInt32 % 65536).toInt32)) fun M_10 => (rzM (setI M_10 a0 1 ((mI M_10 a0 1) + 1)) fun M_14 => (fM_write_135 n d C (fM_write_87 n d C w) a0 l1 x4 M_14))) else none) else none) else none)) else none))
set_option maxRecDepth 100000 in
set_option maxHeartbeats 4000000 in
theorem tM_write_87 {n : Nat} (F : FX p s m meth c G R M0 d "HeadCountModel" bM_write 6 (some .boolean)) (hC : CBs l G d C) : ∀ (w : Nat) (a0 : Nat) (l1 : Int64) (x4 : Int32) (M : Mem) (H : Heap) (locs : List Loc) (cells slots : Nat) (ls : Array Slot), fM_write_87 n d C w a0 l1 x4 M = some (r, M') → RL G M0 M H locs cells slots → lv_has ls 6 [(0, .ref a0), (1, .long l1), (4, .int x4)] → W p l e R s m args below meth c H locs cells slots (CQ G below s M0 r M') (F0 m 87 ls []) := by
  obtain ⟨hx, hb, hml, hown, hrt, hlk, hex, hK, hRm⟩ := id F
  intro w
  induction w with
  | zero => intro a0 l1 x4 M H locs cells slots ls h; cases h
  | succ w ih =>
    intro a0 l1 x4 M H locs cells slots ls h hR hl
    rw [fM_write_87] at h
    refine lv_iload hx hb dM_write_87 (lv_at hl 2 rfl) ?_
    refine lv_bipush (v := 8) hx hb dM_write_89 (by decide) ?_
    refine lv_icmp_ge (tgt := 141) hx hb dM_write_91 (by decide) (fun c_1 => ?_) (fun c_1 => ?_)
    · replace h := rz_t c_1 h
      refine lv_iconst (v := 1) hx hb dM_write_141 (by decide) ?_
      obtain ⟨c_2, h⟩ := rz_chk h
      cases h
      exact rt_i hx hb hlk hrt (Or.inr (Or.inr rfl)) c_2 hR dM_write_142
    · replace h := rz_f c_1 h
      refine lv_lload_n hx hb dM_write_94 rfl (lv_at hl 1 rfl) ?_
      refine lv_bipush (v := 8) hx hb dM_write_95 (by decide) ?_
      refine lv_iload hx hb dM_write_97 (lv_at hl 2 rfl) ?_
      refine lv_imul hx hb dM_write_99 ?_
      refine lv_lshr hx hb dM_write_100 rfl ?_
      refine lv_ldc2 (v := 255) hx hb hown (hK.w kq_M_64 rfl args) dM_write_101 ?_
      refine lv_land hx hb dM_write_104 ?_
      refine lv_l2i hx hb dM_write_105 rfl ?_
      refine lv_istore (lv' := [(5, .int (((l1 >>> ((8 * x4).toInt64 &&& 63)) &&& 255).toInt32)), (0, .ref a0), (1, .long l1), (4, .int x4)]) hx hb dM_write_106 hl (by decide) rfl (fun ls hl => ?_)
      refine lv_iload hx hb dM_write_108 (lv_at hl 0 rfl) ?_
      refine lv_if_eq (tgt := 135) hx hb dM_write_110 (by decide) (fun c_3 => ?_) (fun c_3 => ?_)
      · replace h := rz_t c_3 h
        exact tM_write_135 F hC ih a0 l1 x4 _ _ _ _ _ _ h hR (lv_sub hl [1, 2, 3] rfl)
      · replace h := rz_f c_3 h
        refine lv_aload_n hx hb dM_write_113 rfl (lv_at hl 1 rfl) ?_
        obtain ⟨c_4, h⟩ := rz_chk h
        refine rg_getP hx hb hown hK hR hk_M 2 (by decide) kf_M_7 rfl c_4 dM_write_114 ?_
        refine lv_aload_n hx hb dM_write_117 rfl (lv_at hl 1 rfl) ?_
        refine rg_getI hx hb hown hK hR hk_M 1 (by decide) kf_M_66 rfl c_4 dM_write_118 ?_
        refine lv_iload hx hb dM_write_121 (lv_at hl 0 rfl) ?_
        refine lv_i2c hx hb dM_write_123 rfl ?_
        obtain ⟨a_5, e_6, h⟩ := rz_d h
        rw [e_6]
        obtain ⟨c_7, h⟩ := rz_chk h
        obtain ⟨c_8, h⟩ := rz_chk h
        obtain ⟨c_9, h⟩ := rz_chk h
        obtain ⟨M_10, q_11, h⟩ := rz_m h
        refine rg_cast hx hb hK hR c_7 c_8 c_9 dM_write_124 (fun H locs hR => ?_)
        rw [← q_11] at hR
        have c_12 : mK M_10 a0 = 5 := by rw [q_11]; exact c_4
        have c_13 : mK M_10 a_5 = 22 := by rw [q_11]; exact c_7
        refine lv_aload_n hx hb dM_write_125 rfl (lv_at hl 1 rfl) ?_
        refine lv_dup hx hb dM_write_126 rfl ?_
        refine rg_getI hx hb hown hK hR hk_M 1 (by decide) kf_M_66 rfl c_12 dM_write_127 ?_
        refine lv_iconst (v := 1) hx hb dM_write_130 (by decide) ?_
        refine lv_iadd hx hb dM_write_131 ?_
        obtain ⟨M_14, q_15, h⟩ := rz_m h
        refine rg_putI hx hb hown hK hR hk_M 1 (by decide) kf_M_66 rfl rfl (ty := .int) (by decide +kernel) (Or.inl rfl) rfl c_12 dM_write_132 (fun H locs hR => ?_)
        rw [← q_15] at hR
        have c_16 : mK M_14 a0 = 5 := by rw [q_15]; exact c_12
        have c_17 : mK M_14 a_5 = 22 := by rw [q_15]; exact c_13
        exact tM_write_135 F hC ih a0 l1 x4 _ _ _ _ _ _ h hR (lv_sub hl [1, 2, 3] rfl)
def fM_write_10 (n d : Nat) (C : Cx) : Nat → Nat → Int64 → Int32 → Int32 → Mem → Rz
  | 0, _, _, _, _, _ => none
  | w + 1, a0, l1, x3, x4, M => if 8 ≤ x4 then (if mK M a0 = 5 then (if ((mI M a0 1) + x3) ≤ 120 then (fM_write_87 n d C n a0 l1 0 M) else (if fits .boolean (.int 0) = true then (some (.inl (some (.int 0)), M)) else none)) else none) else (if (((l1 >>> ((8 * x4).toInt64 &&& 63)) &&& 255).toInt32) = 0 then (fM_write_52 n d C (fM_write_10 n d C w) a0 l1 x3 x4 (((l1 >>> ((8 * x4).toInt64 &&& 63)) &&& 255).toInt32) M) else (if (((l1 >>> ((8 * x4).toInt64 &&& 63)) &&& 255).toInt32) < 32 then (fM_write_50 n d C M) else (if (((l1 >>> ((8 * x4).toInt64 &&& 63)) &&& 255).toInt32) ≤ 126 then (fM_write_52 n d C (fM_write_10 n d C w) a0 l1 x3 x4 (((l1 >>> ((8 * x4).toInt64 &&& 63)) &&& 255).toInt32) M) else (fM_write_50 n d C M))))
set_option maxRecDepth 100000 in
set_option maxHeartbeats 4000000 in
theorem tM_write_10 {n : Nat} (F : FX p s m meth c G R M0 d "HeadCountModel" bM_write 6 (some .boolean)) (hC : CBs l G d C) : ∀ (w : Nat) (a0 : Nat) (l1 : Int64) (x3 : Int32) (x4 : Int32) (M : Mem) (H : Heap) (locs : List Loc) (cells slots : Nat) (ls : Array Slot), fM_write_10 n d C w a0 l1 x3 x4 M = some (r, M') → RL G M0 M H locs cells slots → lv_has ls 6 [(0, .ref a0), (1, .long l1), (3, .int x3), (4, .int x4)] → W p l e R s m args below meth c H locs cells slots (CQ G below s M0 r M') (F0 m 10 ls []) := by
  obtain ⟨hx, hb, hml, hown, hrt, hlk, hex, hK, hRm⟩ := id F
  intro w
  induction w with
  | zero => intro a0 l1 x3 x4 M H locs cells slots ls h; cases h
  | succ w ih =>
    intro a0 l1 x3 x4 M H locs cells slots ls h hR hl
    rw [fM_write_10] at h
    refine lv_iload hx hb dM_write_10 (lv_at hl 3 rfl) ?_
    refine lv_bipush (v := 8) hx hb dM_write_12 (by decide) ?_
    refine lv_icmp_ge (tgt := 71) hx hb dM_write_14 (by decide) (fun c_1 => ?_) (fun c_1 => ?_)
    · replace h := rz_t c_1 h
      refine lv_aload_n hx hb dM_write_71 rfl (lv_at hl 0 rfl) ?_
      obtain ⟨c_2, h⟩ := rz_chk h
      refine rg_getI hx hb hown hK hR hk_M 1 (by decide) kf_M_66 rfl c_2 dM_write_72 ?_
      refine lv_iload_n hx hb dM_write_75 rfl (lv_at hl 2 rfl) ?_
      refine lv_iadd hx hb dM_write_76 ?_
      refine lv_bipush (v := 120) hx hb dM_write_77 (by decide) ?_
      refine lv_icmp_le (tgt := 84) hx hb dM_write_79 (by decide) (fun c_3 => ?_) (fun c_3 => ?_)
      · replace h := rz_t c_3 h
        refine lv_iconst (v := 0) hx hb dM_write_84 (by decide) ?_
        refine lv_istore (lv' := [(4, .int 0), (0, .ref a0), (1, .long l1), (3, .int x3)]) hx hb dM_write_85 hl (by decide) rfl (fun ls hl => ?_)
        exact tM_write_87 F hC n a0 l1 0 _ _ _ _ _ _ h hR (lv_sub hl [1, 2, 0] rfl)
      · replace h := rz_f c_3 h
        refine lv_iconst (v := 0) hx hb dM_write_82 (by decide) ?_
        obtain ⟨c_4, h⟩ := rz_chk h
        cases h
        exact rt_i hx hb hlk hrt (Or.inr (Or.inr rfl)) c_4 hR dM_write_83
    · replace h := rz_f c_1 h
      refine lv_lload_n hx hb dM_write_17 rfl (lv_at hl 1 rfl) ?_
      refine lv_bipush (v := 8) hx hb dM_write_18 (by decide) ?_
      refine lv_iload hx hb dM_write_20 (lv_at hl 3 rfl) ?_
      refine lv_imul hx hb dM_write_22 ?_
      refine lv_lshr hx hb dM_write_23 rfl ?_
      refine lv_ldc2 (v := 255) hx hb hown (hK.w kq_M_64 rfl args) dM_write_24 ?_
      refine lv_land hx hb dM_write_27 ?_
      refine lv_l2i hx hb dM_write_28 rfl ?_
      refine lv_istore (lv' := [(5, .int (((l1 >>> ((8 * x4).toInt64 &&& 63)) &&& 255).toInt32)), (0, .ref a0), (1, .long l1), (3, .int x3), (4, .int x4)]) hx hb dM_write_29 hl (by decide) rfl (fun ls hl => ?_)
      refine lv_iload hx hb dM_write_31 (lv_at hl 0 rfl) ?_
      refine lv_if_eq (tgt := 52) hx hb dM_write_33 (by decide) (fun c_5 => ?_) (fun c_5 => ?_)
      · replace h := rz_t c_5 h
        exact tM_write_52 F hC ih a0 l1 x3 x4 (((l1 >>> ((8 * x4).toInt64 &&& 63)) &&& 255).toInt32) _ _ _ _ _ _ h hR (lv_sub hl [1, 2, 3, 4, 0] rfl)
      · replace h := rz_f c_5 h
        refine lv_iload hx hb dM_write_36 (lv_at hl 0 rfl) ?_
        refine lv_bipush (v := 32) hx hb dM_write_38 (by decide) ?_
        refine lv_icmp_lt (tgt := 50) hx hb dM_write_40 (by decide) (fun c_6 => ?_) (fun c_6 => ?_)
        · replace h := rz_t c_6 h
          exact tM_write_50 F hC _ _ _ _ _ _ h hR (lv_sub hl [] rfl)
        · replace h := rz_f c_6 h
          refine lv_iload hx hb dM_write_43 (lv_at hl 0 rfl) ?_
          refine lv_bipush (v := 126) hx hb dM_write_45 (by decide) ?_
          refine lv_icmp_le (tgt := 52) hx hb dM_write_47 (by decide) (fun c_7 => ?_) (fun c_7 => ?_)
          · replace h := rz_t c_7 h
            exact tM_write_52 F hC ih a0 l1 x3 x4 (((l1 >>> ((8 * x4).toInt64 &&& 63)) &&& 255).toInt32) _ _ _ _ _ _ h hR (lv_sub hl [1, 2, 3, 4, 0] rfl)
          · replace h := rz_f c_7 h
            exact tM_write_50 F hC _ _ _ _ _ _ h hR (lv_sub hl [] rfl)
def fM_write_0 (n d : Nat) (C : Cx) (a0 : Nat) (l1 : Int64) (M : Mem) : Rz := if mK M a0 = 5 then (rzM (setI M a0 0 0) fun M_2 => (fM_write_10 n d C n a0 l1 0 0 M_2)) else none
set_option maxRecDepth 100000 in
set_option maxHeartbeats 4000000 in
theorem tM_write_0 {n : Nat} (F : FX p s m meth c G R M0 d "HeadCountModel" bM_write 6 (some .boolean)) (hC : CBs l G d C) : ∀ (a0 : Nat) (l1 : Int64) (M : Mem) (H : Heap) (locs : List Loc) (cells slots : Nat) (ls : Array Slot), fM_write_0 n d C a0 l1 M = some (r, M') → RL G M0 M H locs cells slots → lv_has ls 6 [(0, .ref a0), (1, .long l1)] → W p l e R s m args below meth c H locs cells slots (CQ G below s M0 r M') (F0 m 0 ls []) := by
  obtain ⟨hx, hb, hml, hown, hrt, hlk, hex, hK, hRm⟩ := id F
  intro a0 l1 M H locs cells slots ls h hR hl
  unfold fM_write_0 at h
  refine lv_aload_n hx hb dM_write_0 rfl (lv_at hl 0 rfl) ?_
  refine lv_iconst (v := 0) hx hb dM_write_1 (by decide) ?_
  obtain ⟨c_1, h⟩ := rz_chk h
  obtain ⟨M_2, q_3, h⟩ := rz_m h
  refine rg_putI hx hb hown hK hR hk_M 0 (by decide) kf_M_60 rfl rfl (ty := .int) (by decide +kernel) (Or.inl rfl) rfl c_1 dM_write_2 (fun H locs hR => ?_)
  rw [← q_3] at hR
  have c_4 : mK M_2 a0 = 5 := by rw [q_3]; exact c_1
  refine lv_iconst (v := 0) hx hb dM_write_5 (by decide) ?_
  refine lv_istore_n (lv' := [(3, .int 0), (0, .ref a0), (1, .long l1)]) hx hb dM_write_6 rfl hl (by decide) rfl (fun ls hl => ?_)
  refine lv_iconst (v := 0) hx hb dM_write_7 (by decide) ?_
  refine lv_istore (lv' := [(4, .int 0), (3, .int 0), (0, .ref a0), (1, .long l1)]) hx hb dM_write_8 hl (by decide) rfl (fun ls hl => ?_)
  exact tM_write_10 F hC n a0 l1 0 0 _ _ _ _ _ _ h hR (lv_sub hl [2, 3, 1, 0] rfl)
set_option maxRecDepth 100000 in
set_option maxHeartbeats 4000000 in
theorem sM_write {l : Launch} {G : Gx} {n d : Nat} {C : Cx} (hC : CBs l G d C) (a0 : Nat) (l1 : Int64) {M M' : Mem} {r : Option Value ⊕ Nat} (h : fM_write_0 n d C a0 l1 M = some (r, M')) : CB l G (d + 1) yM_write [.ref a0, .long l1] M r M' := by
  intro p e R s m below meth c hx hn hm hc hlk hK hR hcap hS hU hfr hlo hrc hrs
  obtain ⟨hb, hml, hrt, hex, hown⟩ := fx_of hn hm hc (hK.w mfM_write.2.2.1 rfl #[])
  have F : FX p s m meth c G R M d "HeadCountModel" bM_write 6 (some .boolean) := ⟨hx, hb, hml, hown, hrt, hlk, hex, hK, hfr, hlo, by rw [← hcap]; exact hrc, hrs⟩
  rw [hml]
  have hl := lv_entry ([.ref a0, .long l1]) (n := 6) (by simp [lg_sl, cat_rf, cat_i, cat_a, cat_l, cat_n])
  rw [lg_entry_eq]
  generalize (lg_sl ([.ref a0, .long l1]) ++ List.replicate (6 - (lg_sl ([.ref a0, .long l1])).length) Slot.unset).toArray = ls at hl ⊢
  have hl : lv_has ls 6 [(0, .ref a0), (1, .long l1)] := by simpa [lv_args, cat_rf, cat_i, cat_a, cat_l, cat_n] using hl
  exact tM_write_0 F hC a0 l1 _ _ _ _ _ _ h (RL.start hR hcap hS hU) (lv_sub hl [0, 1] rfl)
def fM_wipe_0 (n d : Nat) (C : Cx) (a0 : Nat) (M : Mem) : Rz := if mK M a0 = 5 then (rzM (setI M a0 0 0) fun M_2 => (rzM (setI M_2 a0 1 0) fun M_5 => (some (.inl (some (.int (mI M_2 a0 1))), M_5)))) else none
set_option maxRecDepth 100000 in
set_option maxHeartbeats 4000000 in
theorem tM_wipe_0 {n : Nat} (F : FX p s m meth c G R M0 d "HeadCountModel" bM_wipe 2 (some .int)) (hC : CBs l G d C) : ∀ (a0 : Nat) (M : Mem) (H : Heap) (locs : List Loc) (cells slots : Nat) (ls : Array Slot), fM_wipe_0 n d C a0 M = some (r, M') → RL G M0 M H locs cells slots → lv_has ls 2 [(0, .ref a0)] → W p l e R s m args below meth c H locs cells slots (CQ G below s M0 r M') (F0 m 0 ls []) := by
  obtain ⟨hx, hb, hml, hown, hrt, hlk, hex, hK, hRm⟩ := id F
  intro a0 M H locs cells slots ls h hR hl
  unfold fM_wipe_0 at h
  refine lv_aload_n hx hb dM_wipe_0 rfl (lv_at hl 0 rfl) ?_
  refine lv_iconst (v := 0) hx hb dM_wipe_1 (by decide) ?_
  obtain ⟨c_1, h⟩ := rz_chk h
  obtain ⟨M_2, q_3, h⟩ := rz_m h
  refine rg_putI hx hb hown hK hR hk_M 0 (by decide) kf_M_60 rfl rfl (ty := .int) (by decide +kernel) (Or.inl rfl) rfl c_1 dM_wipe_2 (fun H locs hR => ?_)
  rw [← q_3] at hR
  have c_4 : mK M_2 a0 = 5 := by rw [q_3]; exact c_1
  refine lv_aload_n hx hb dM_wipe_5 rfl (lv_at hl 0 rfl) ?_
  refine rg_getI hx hb hown hK hR hk_M 1 (by decide) kf_M_66 rfl c_4 dM_wipe_6 ?_
  refine lv_istore_n (lv' := [(1, .int (mI M_2 a0 1)), (0, .ref a0)]) hx hb dM_wipe_9 rfl hl (by decide) rfl (fun ls hl => ?_)
  refine lv_aload_n hx hb dM_wipe_10 rfl (lv_at hl 1 rfl) ?_
  refine lv_iconst (v := 0) hx hb dM_wipe_11 (by decide) ?_
  obtain ⟨M_5, q_6, h⟩ := rz_m h
  refine rg_putI hx hb hown hK hR hk_M 1 (by decide) kf_M_66 rfl rfl (ty := .int) (by decide +kernel) (Or.inl rfl) rfl c_4 dM_wipe_12 (fun H locs hR => ?_)
  rw [← q_6] at hR
  have c_7 : mK M_5 a0 = 5 := by rw [q_6]; exact c_4
  refine lv_iload_n hx hb dM_wipe_15 rfl (lv_at hl 0 rfl) ?_
  cases h
  exact rt_i hx hb hlk hrt (Or.inl rfl) rfl hR dM_wipe_16
set_option maxRecDepth 100000 in
set_option maxHeartbeats 4000000 in
theorem sM_wipe {l : Launch} {G : Gx} {n d : Nat} {C : Cx} (hC : CBs l G d C) (a0 : Nat) {M M' : Mem} {r : Option Value ⊕ Nat} (h : fM_wipe_0 n d C a0 M = some (r, M')) : CB l G (d + 1) yM_wipe [.ref a0] M r M' := by
  intro p e R s m below meth c hx hn hm hc hlk hK hR hcap hS hU hfr hlo hrc hrs
  obtain ⟨hb, hml, hrt, hex, hown⟩ := fx_of hn hm hc (hK.w mfM_wipe.2.2.1 rfl #[])
  have F : FX p s m meth c G R M d "HeadCountModel" bM_wipe 2 (some .int) := ⟨hx, hb, hml, hown, hrt, hlk, hex, hK, hfr, hlo, by rw [← hcap]; exact hrc, hrs⟩
  rw [hml]
  have hl := lv_entry ([.ref a0]) (n := 2) (by simp [lg_sl, cat_rf, cat_i, cat_a, cat_l, cat_n])
  rw [lg_entry_eq]
  generalize (lg_sl ([.ref a0]) ++ List.replicate (2 - (lg_sl ([.ref a0])).length) Slot.unset).toArray = ls at hl ⊢
  have hl : lv_has ls 2 [(0, .ref a0)] := by simpa [lv_args, cat_rf, cat_i, cat_a, cat_l, cat_n] using hl
  exact tM_wipe_0 F hC a0 _ _ _ _ _ _ h (RL.start hR hcap hS hU) (lv_sub hl [0] rfl)
def fM_length_0 (n d : Nat) (C : Cx) (a0 : Nat) (M : Mem) : Rz := if mK M a0 = 5 then (rzM (setI M a0 0 0) fun M_2 => (some (.inl (some (.int (mI M_2 a0 1))), M_2))) else none
set_option maxRecDepth 100000 in
set_option maxHeartbeats 4000000 in
theorem tM_length_0 {n : Nat} (F : FX p s m meth c G R M0 d "HeadCountModel" bM_length 1 (some .int)) (hC : CBs l G d C) : ∀ (a0 : Nat) (M : Mem) (H : Heap) (locs : List Loc) (cells slots : Nat) (ls : Array Slot), fM_length_0 n d C a0 M = some (r, M') → RL G M0 M H locs cells slots → lv_has ls 1 [(0, .ref a0)] → W p l e R s m args below meth c H locs cells slots (CQ G below s M0 r M') (F0 m 0 ls []) := by
  obtain ⟨hx, hb, hml, hown, hrt, hlk, hex, hK, hRm⟩ := id F
  intro a0 M H locs cells slots ls h hR hl
  unfold fM_length_0 at h
  refine lv_aload_n hx hb dM_length_0 rfl (lv_at hl 0 rfl) ?_
  refine lv_iconst (v := 0) hx hb dM_length_1 (by decide) ?_
  obtain ⟨c_1, h⟩ := rz_chk h
  obtain ⟨M_2, q_3, h⟩ := rz_m h
  refine rg_putI hx hb hown hK hR hk_M 0 (by decide) kf_M_60 rfl rfl (ty := .int) (by decide +kernel) (Or.inl rfl) rfl c_1 dM_length_2 (fun H locs hR => ?_)
  rw [← q_3] at hR
  have c_4 : mK M_2 a0 = 5 := by rw [q_3]; exact c_1
  refine lv_aload_n hx hb dM_length_5 rfl (lv_at hl 0 rfl) ?_
  refine rg_getI hx hb hown hK hR hk_M 1 (by decide) kf_M_66 rfl c_4 dM_length_6 ?_
  cases h
  exact rt_i hx hb hlk hrt (Or.inl rfl) rfl hR dM_length_9
set_option maxRecDepth 100000 in
set_option maxHeartbeats 4000000 in
theorem sM_length {l : Launch} {G : Gx} {n d : Nat} {C : Cx} (hC : CBs l G d C) (a0 : Nat) {M M' : Mem} {r : Option Value ⊕ Nat} (h : fM_length_0 n d C a0 M = some (r, M')) : CB l G (d + 1) yM_length [.ref a0] M r M' := by
  intro p e R s m below meth c hx hn hm hc hlk hK hR hcap hS hU hfr hlo hrc hrs
  obtain ⟨hb, hml, hrt, hex, hown⟩ := fx_of hn hm hc (hK.w mfM_length.2.2.1 rfl #[])
  have F : FX p s m meth c G R M d "HeadCountModel" bM_length 1 (some .int) := ⟨hx, hb, hml, hown, hrt, hlk, hex, hK, hfr, hlo, by rw [← hcap]; exact hrc, hrs⟩
  rw [hml]
  have hl := lv_entry ([.ref a0]) (n := 1) (by simp [lg_sl, cat_rf, cat_i, cat_a, cat_l, cat_n])
  rw [lg_entry_eq]
  generalize (lg_sl ([.ref a0]) ++ List.replicate (1 - (lg_sl ([.ref a0])).length) Slot.unset).toArray = ls at hl ⊢
  have hl : lv_has ls 1 [(0, .ref a0)] := by simpa [lv_args, cat_rf, cat_i, cat_a, cat_l, cat_n] using hl
  exact tM_length_0 F hC a0 _ _ _ _ _ _ h (RL.start hR hcap hS hU) (lv_sub hl [0] rfl)
def fM_deeper_0 (n d : Nat) (C : Cx) (a0 : Nat) (x1 : Int32) (M : Mem) : Rz := if mK M a0 = 5 then (if (mI M a0 24) < 12 then (rzM (setI M a0 24 ((mI M a0 24) + 1)) fun M_3 => (rzC (C 75 [.ref a0, .int x1] M_3) fun v_6 M_7 => (rzV v_6 (if fits .boolean (.int 1) = true then (some (.inl (some (.int 1)), M_7)) else none)))) else (if fits .boolean (.int 0) = true then (some (.inl (some (.int 0)), M)) else none)) else none
set_option maxRecDepth 100000 in
set_option maxHeartbeats 4000000 in
theorem tM_deeper_0 {n : Nat} (F : FX p s m meth c G R M0 d "HeadCountModel" bM_deeper 2 (some .boolean)) (hC : CBs l G d C) : ∀ (a0 : Nat) (x1 : Int32) (M : Mem) (H : Heap) (locs : List Loc) (cells slots : Nat) (ls : Array Slot), fM_deeper_0 n d C a0 x1 M = some (r, M') → RL G M0 M H locs cells slots → lv_has ls 2 [(0, .ref a0), (1, .int x1)] → W p l e R s m args below meth c H locs cells slots (CQ G below s M0 r M') (F0 m 0 ls []) := by
  obtain ⟨hx, hb, hml, hown, hrt, hlk, hex, hK, hRm⟩ := id F
  intro a0 x1 M H locs cells slots ls h hR hl
  unfold fM_deeper_0 at h
  refine lv_aload_n hx hb dM_deeper_0 rfl (lv_at hl 0 rfl) ?_
  obtain ⟨c_1, h⟩ := rz_chk h
  refine rg_getI hx hb hown hK hR hk_M 24 (by decide) kf_M_75 rfl c_1 dM_deeper_1 ?_
  refine lv_bipush (v := 12) hx hb dM_deeper_4 (by decide) ?_
  refine lv_icmp_lt (tgt := 11) hx hb dM_deeper_6 (by decide) (fun c_2 => ?_) (fun c_2 => ?_)
  · replace h := rz_t c_2 h
    refine lv_aload_n hx hb dM_deeper_11 rfl (lv_at hl 0 rfl) ?_
    refine lv_dup hx hb dM_deeper_12 rfl ?_
    refine rg_getI hx hb hown hK hR hk_M 24 (by decide) kf_M_75 rfl c_1 dM_deeper_13 ?_
    refine lv_iconst (v := 1) hx hb dM_deeper_16 (by decide) ?_
    refine lv_iadd hx hb dM_deeper_17 ?_
    obtain ⟨M_3, q_4, h⟩ := rz_m h
    refine rg_putI hx hb hown hK hR hk_M 24 (by decide) kf_M_75 rfl rfl (ty := .int) (by decide +kernel) (Or.inl rfl) rfl c_1 dM_deeper_18 (fun H locs hR => ?_)
    rw [← q_4] at hR
    have c_5 : mK M_3 a0 = 5 := by rw [q_4]; exact c_1
    refine lv_aload_n hx hb dM_deeper_21 rfl (lv_at hl 0 rfl) ?_
    refine lv_iload_n hx hb dM_deeper_22 rfl (lv_at hl 1 rfl) ?_
    obtain ⟨q_9, M_7, h_8, h⟩ := rz_c h
    refine rc_V (rest := []) (As := [.int x1]) hx hb (hl.1.trans hml.symm) hown hK hR hRm mfM_push kl_M_78 hk_M rfl rfl c_5 (by simp [cat_rf, cat_i, cat_a, cat_l, cat_n]) (hC 75 _ _ _ _ h_8) dM_deeper_23 (fun v1 H locs cells slots ev hR => ?_) (fun x1 q1 ce1 H locs cells slots ex hR g1 g2 g3 => ?_)
    · rcases h with ⟨v_6, ev2, h⟩ | ⟨e2, ee2, -⟩
      · cases ev.symm.trans ev2
        replace h := rz_v h
        obtain ⟨rfl, h⟩ := h
        dsimp only [Option.toList, List.cons_append, List.nil_append]
        refine lv_iconst (v := 1) hx hb dM_deeper_26 (by decide) ?_
        obtain ⟨c_10, h⟩ := rz_chk h
        cases h
        exact rt_i hx hb hlk hrt (Or.inr (Or.inr rfl)) c_10 hR dM_deeper_27
      · cases ev.symm.trans ee2
    · rcases h with ⟨v2, ev2, -⟩ | ⟨e2, ee2, h⟩
      · cases ex.symm.trans ev2
      · cases ex.symm.trans ee2
        cases h
        exact rt_x hlk hex hR g1 g2 g3
  · replace h := rz_f c_2 h
    refine lv_iconst (v := 0) hx hb dM_deeper_9 (by decide) ?_
    obtain ⟨c_11, h⟩ := rz_chk h
    cases h
    exact rt_i hx hb hlk hrt (Or.inr (Or.inr rfl)) c_11 hR dM_deeper_10
set_option maxRecDepth 100000 in
set_option maxHeartbeats 4000000 in
theorem sM_deeper {l : Launch} {G : Gx} {n d : Nat} {C : Cx} (hC : CBs l G d C) (a0 : Nat) (x1 : Int32) {M M' : Mem} {r : Option Value ⊕ Nat} (h : fM_deeper_0 n d C a0 x1 M = some (r, M')) : CB l G (d + 1) yM_deeper [.ref a0, .int x1] M r M' := by
  intro p e R s m below meth c hx hn hm hc hlk hK hR hcap hS hU hfr hlo hrc hrs
  obtain ⟨hb, hml, hrt, hex, hown⟩ := fx_of hn hm hc (hK.w mfM_deeper.2.2.1 rfl #[])
  have F : FX p s m meth c G R M d "HeadCountModel" bM_deeper 2 (some .boolean) := ⟨hx, hb, hml, hown, hrt, hlk, hex, hK, hfr, hlo, by rw [← hcap]; exact hrc, hrs⟩
  rw [hml]
  have hl := lv_entry ([.ref a0, .int x1]) (n := 2) (by simp [lg_sl, cat_rf, cat_i, cat_a, cat_l, cat_n])
  rw [lg_entry_eq]
  generalize (lg_sl ([.ref a0, .int x1]) ++ List.replicate (2 - (lg_sl ([.ref a0, .int x1])).length) Slot.unset).toArray = ls at hl ⊢
  have hl : lv_has ls 2 [(0, .ref a0), (1, .int x1)] := by simpa [lv_args, cat_rf, cat_i, cat_a, cat_l, cat_n] using hl
  exact tM_deeper_0 F hC a0 x1 _ _ _ _ _ _ h (RL.start hR hcap hS hU) (lv_sub hl [0, 1] rfl)
def fM_push_0 (n d : Nat) (C : Cx) (a0 : Nat) (x1 : Int32) (M : Mem) : Rz := if mK M a0 = 5 then (rzD (mP M a0 20) fun a_2 => (if mK M a_2 = 21 then (if inA (mI M a0 19) (mL M a_2) then (rzM (setI M a_2 (mI M a0 19).toNatClampNeg x1) fun M_6 => (rzM (setI M_6 a0 19 ((mI M_6 a0 19) + 1)) fun M_10 => (some (.inl none, M_10)))) else none) else none)) else none
set_option maxRecDepth 100000 in
set_option maxHeartbeats 4000000 in
theorem tM_push_0 {n : Nat} (F : FX p s m meth c G R M0 d "HeadCountModel" bM_push 2 none) (hC : CBs l G d C) : ∀ (a0 : Nat) (x1 : Int32) (M : Mem) (H : Heap) (locs : List Loc) (cells slots : Nat) (ls : Array Slot), fM_push_0 n d C a0 x1 M = some (r, M') → RL G M0 M H locs cells slots → lv_has ls 2 [(0, .ref a0), (1, .int x1)] → W p l e R s m args below meth c H locs cells slots (CQ G below s M0 r M') (F0 m 0 ls []) := by
  obtain ⟨hx, hb, hml, hown, hrt, hlk, hex, hK, hRm⟩ := id F
  intro a0 x1 M H locs cells slots ls h hR hl
  unfold fM_push_0 at h
  refine lv_aload_n hx hb dM_push_0 rfl (lv_at hl 0 rfl) ?_
  obtain ⟨c_1, h⟩ := rz_chk h
  refine rg_getP hx hb hown hK hR hk_M 20 (by decide) kf_M_39 rfl c_1 dM_push_1 ?_
  refine lv_aload_n hx hb dM_push_4 rfl (lv_at hl 0 rfl) ?_
  refine rg_getI hx hb hown hK hR hk_M 19 (by decide) kf_M_72 rfl c_1 dM_push_5 ?_
  refine lv_iload_n hx hb dM_push_8 rfl (lv_at hl 1 rfl) ?_
  obtain ⟨a_2, e_3, h⟩ := rz_d h
  rw [e_3]
  obtain ⟨c_4, h⟩ := rz_chk h
  obtain ⟨c_5, h⟩ := rz_chk h
  obtain ⟨M_6, q_7, h⟩ := rz_m h
  refine rg_iast hx hb hK hR c_4 c_5 dM_push_9 (fun H locs hR => ?_)
  rw [← q_7] at hR
  have c_8 : mK M_6 a0 = 5 := by rw [q_7]; exact c_1
  have c_9 : mK M_6 a_2 = 21 := by rw [q_7]; exact c_4
  refine lv_aload_n hx hb dM_push_10 rfl (lv_at hl 0 rfl) ?_
  refine lv_dup hx hb dM_push_11 rfl ?_
  refine rg_getI hx hb hown hK hR hk_M 19 (by decide) kf_M_72 rfl c_8 dM_push_12 ?_
  refine lv_iconst (v := 1) hx hb dM_push_15 (by decide) ?_
  refine lv_iadd hx hb dM_push_16 ?_
  obtain ⟨M_10, q_11, h⟩ := rz_m h
  refine rg_putI hx hb hown hK hR hk_M 19 (by decide) kf_M_72 rfl rfl (ty := .int) (by decide +kernel) (Or.inl rfl) rfl c_8 dM_push_17 (fun H locs hR => ?_)
  rw [← q_11] at hR
  have c_12 : mK M_10 a0 = 5 := by rw [q_11]; exact c_8
  have c_13 : mK M_10 a_2 = 21 := by rw [q_11]; exact c_9
  cases h
  exact rt_v hx hb hlk hrt hR dM_push_20
set_option maxRecDepth 100000 in
set_option maxHeartbeats 4000000 in
theorem sM_push {l : Launch} {G : Gx} {n d : Nat} {C : Cx} (hC : CBs l G d C) (a0 : Nat) (x1 : Int32) {M M' : Mem} {r : Option Value ⊕ Nat} (h : fM_push_0 n d C a0 x1 M = some (r, M')) : CB l G (d + 1) yM_push [.ref a0, .int x1] M r M' := by
  intro p e R s m below meth c hx hn hm hc hlk hK hR hcap hS hU hfr hlo hrc hrs
  obtain ⟨hb, hml, hrt, hex, hown⟩ := fx_of hn hm hc (hK.w mfM_push.2.2.1 rfl #[])
  have F : FX p s m meth c G R M d "HeadCountModel" bM_push 2 none := ⟨hx, hb, hml, hown, hrt, hlk, hex, hK, hfr, hlo, by rw [← hcap]; exact hrc, hrs⟩
  rw [hml]
  have hl := lv_entry ([.ref a0, .int x1]) (n := 2) (by simp [lg_sl, cat_rf, cat_i, cat_a, cat_l, cat_n])
  rw [lg_entry_eq]
  generalize (lg_sl ([.ref a0, .int x1]) ++ List.replicate (2 - (lg_sl ([.ref a0, .int x1])).length) Slot.unset).toArray = ls at hl ⊢
  have hl : lv_has ls 2 [(0, .ref a0), (1, .int x1)] := by simpa [lv_args, cat_rf, cat_i, cat_a, cat_l, cat_n] using hl
  exact tM_push_0 F hC a0 x1 _ _ _ _ _ _ h (RL.start hR hcap hS hU) (lv_sub hl [0, 1] rfl)
def fM_isDigit_17 (n d : Nat) (C : Cx) (xs0 : Int32) (M : Mem) : Rz := if fits .boolean (.int xs0) = true then (some (.inl (some (.int xs0)), M)) else none
set_option maxRecDepth 100000 in
set_option maxHeartbeats 4000000 in
theorem tM_isDigit_17 {n : Nat} (F : FX p s m meth c G R M0 d "HeadCountModel" bM_isDigit 1 (some .boolean)) (hC : CBs l G d C) : ∀ (xs0 : Int32) (M : Mem) (H : Heap) (locs : List Loc) (cells slots : Nat) (ls : Array Slot), fM_isDigit_17 n d C xs0 M = some (r, M') → RL G M0 M H locs cells slots → lv_has ls 1 [] → W p l e R s m args below meth c H locs cells slots (CQ G below s M0 r M') (F0 m 17 ls [.int xs0]) := by
  obtain ⟨hx, hb, hml, hown, hrt, hlk, hex, hK, hRm⟩ := id F
  intro xs0 M H locs cells slots ls h hR hl
  unfold fM_isDigit_17 at h
  obtain ⟨c_1, h⟩ := rz_chk h
  cases h
  exact rt_i hx hb hlk hrt (Or.inr (Or.inr rfl)) c_1 hR dM_isDigit_17
def fM_isDigit_16 (n d : Nat) (C : Cx) (M : Mem) : Rz := fM_isDigit_17 n d C 0 M
set_option maxRecDepth 100000 in
set_option maxHeartbeats 4000000 in
theorem tM_isDigit_16 {n : Nat} (F : FX p s m meth c G R M0 d "HeadCountModel" bM_isDigit 1 (some .boolean)) (hC : CBs l G d C) : ∀ (M : Mem) (H : Heap) (locs : List Loc) (cells slots : Nat) (ls : Array Slot), fM_isDigit_16 n d C M = some (r, M') → RL G M0 M H locs cells slots → lv_has ls 1 [] → W p l e R s m args below meth c H locs cells slots (CQ G below s M0 r M') (F0 m 16 ls []) := by
  obtain ⟨hx, hb, hml, hown, hrt, hlk, hex, hK, hRm⟩ := id F
  intro M H locs cells slots ls h hR hl
  unfold fM_isDigit_16 at h
  refine lv_iconst (v := 0) hx hb dM_isDigit_16 (by decide) ?_
  exact tM_isDigit_17 F hC 0 _ _ _ _ _ _ h hR (lv_sub hl [] rfl)
def fM_isDigit_0 (n d : Nat) (C : Cx) (x0 : Int32) (M : Mem) : Rz := if x0 < 48 then (fM_isDigit_16 n d C M) else (if 57 < x0 then (fM_isDigit_16 n d C M) else (fM_isDigit_17 n d C 1 M))
set_option maxRecDepth 100000 in
set_option maxHeartbeats 4000000 in
theorem tM_isDigit_0 {n : Nat} (F : FX p s m meth c G R M0 d "HeadCountModel" bM_isDigit 1 (some .boolean)) (hC : CBs l G d C) : ∀ (x0 : Int32) (M : Mem) (H : Heap) (locs : List Loc) (cells slots : Nat) (ls : Array Slot), fM_isDigit_0 n d C x0 M = some (r, M') → RL G M0 M H locs cells slots → lv_has ls 1 [(0, .int x0)] → W p l e R s m args below meth c H locs cells slots (CQ G below s M0 r M') (F0 m 0 ls []) := by
  obtain ⟨hx, hb, hml, hown, hrt, hlk, hex, hK, hRm⟩ := id F
  intro x0 M H locs cells slots ls h hR hl
  unfold fM_isDigit_0 at h
  refine lv_iload_n hx hb dM_isDigit_0 rfl (lv_at hl 0 rfl) ?_
  refine lv_bipush (v := 48) hx hb dM_isDigit_1 (by decide) ?_
  refine lv_icmp_lt (tgt := 16) hx hb dM_isDigit_3 (by decide) (fun c_1 => ?_) (fun c_1 => ?_)
  · replace h := rz_t c_1 h
    exact tM_isDigit_16 F hC _ _ _ _ _ _ h hR (lv_sub hl [] rfl)
  · replace h := rz_f c_1 h
    refine lv_iload_n hx hb dM_isDigit_6 rfl (lv_at hl 0 rfl) ?_
    refine lv_bipush (v := 57) hx hb dM_isDigit_7 (by decide) ?_
    refine lv_icmp_gt (tgt := 16) hx hb dM_isDigit_9 (by decide) (fun c_2 => ?_) (fun c_2 => ?_)
    · replace h := rz_t c_2 h
      exact tM_isDigit_16 F hC _ _ _ _ _ _ h hR (lv_sub hl [] rfl)
    · replace h := rz_f c_2 h
      refine lv_iconst (v := 1) hx hb dM_isDigit_12 (by decide) ?_
      refine lv_goto (tgt := 17) hx hb dM_isDigit_13 (by decide) ?_
      exact tM_isDigit_17 F hC 1 _ _ _ _ _ _ h hR (lv_sub hl [] rfl)
set_option maxRecDepth 100000 in
set_option maxHeartbeats 4000000 in
theorem sM_isDigit {l : Launch} {G : Gx} {n d : Nat} {C : Cx} (hC : CBs l G d C) (x0 : Int32) {M M' : Mem} {r : Option Value ⊕ Nat} (h : fM_isDigit_0 n d C x0 M = some (r, M')) : CB l G (d + 1) yM_isDigit [.int x0] M r M' := by
  intro p e R s m below meth c hx hn hm hc hlk hK hR hcap hS hU hfr hlo hrc hrs
  obtain ⟨hb, hml, hrt, hex, hown⟩ := fx_of hn hm hc (hK.w mfM_isDigit.2.2.1 rfl #[])
  have F : FX p s m meth c G R M d "HeadCountModel" bM_isDigit 1 (some .boolean) := ⟨hx, hb, hml, hown, hrt, hlk, hex, hK, hfr, hlo, by rw [← hcap]; exact hrc, hrs⟩
  rw [hml]
  have hl := lv_entry ([.int x0]) (n := 1) (by simp [lg_sl, cat_rf, cat_i, cat_a, cat_l, cat_n])
  rw [lg_entry_eq]
  generalize (lg_sl ([.int x0]) ++ List.replicate (1 - (lg_sl ([.int x0])).length) Slot.unset).toArray = ls at hl ⊢
  have hl : lv_has ls 1 [(0, .int x0)] := by simpa [lv_args, cat_rf, cat_i, cat_a, cat_l, cat_n] using hl
  exact tM_isDigit_0 F hC x0 _ _ _ _ _ _ h (RL.start hR hcap hS hU) (lv_sub hl [0] rfl)
def fM_variableOf_41 (n d : Nat) (C : Cx) (xs0 : Int32) (M : Mem) : Rz := some (.inl (some (.int xs0)), M)
set_option maxRecDepth 100000 in
set_option maxHeartbeats 4000000 in
theorem tM_variableOf_41 {n : Nat} (F : FX p s m meth c G R M0 d "HeadCountModel" bM_variableOf 1 (some .int)) (hC : CBs l G d C) : ∀ (xs0 : Int32) (M : Mem) (H : Heap) (locs : List Loc) (cells slots : Nat) (ls : Array Slot), fM_variableOf_41 n d C xs0 M = some (r, M') → RL G M0 M H locs cells slots → lv_has ls 1 [] → W p l e R s m args below meth c H locs cells slots (CQ G below s M0 r M') (F0 m 41 ls [.int xs0]) := by
  obtain ⟨hx, hb, hml, hown, hrt, hlk, hex, hK, hRm⟩ := id F
  intro xs0 M H locs cells slots ls h hR hl
  unfold fM_variableOf_41 at h
  cases h
  exact rt_i hx hb hlk hrt (Or.inl rfl) rfl hR dM_variableOf_41
def fM_variableOf_40 (n d : Nat) (C : Cx) (M : Mem) : Rz := fM_variableOf_41 n d C ((-1)) M
set_option maxRecDepth 100000 in
set_option maxHeartbeats 4000000 in
theorem tM_variableOf_40 {n : Nat} (F : FX p s m meth c G R M0 d "HeadCountModel" bM_variableOf 1 (some .int)) (hC : CBs l G d C) : ∀ (M : Mem) (H : Heap) (locs : List Loc) (cells slots : Nat) (ls : Array Slot), fM_variableOf_40 n d C M = some (r, M') → RL G M0 M H locs cells slots → lv_has ls 1 [] → W p l e R s m args below meth c H locs cells slots (CQ G below s M0 r M') (F0 m 40 ls []) := by
  obtain ⟨hx, hb, hml, hown, hrt, hlk, hex, hK, hRm⟩ := id F
  intro M H locs cells slots ls h hR hl
  unfold fM_variableOf_40 at h
  refine lv_iconst (v := (-1)) hx hb dM_variableOf_40 (by decide) ?_
  exact tM_variableOf_41 F hC ((-1)) _ _ _ _ _ _ h hR (lv_sub hl [] rfl)
def fM_variableOf_19 (n d : Nat) (C : Cx) (x0 : Int32) (M : Mem) : Rz := if x0 < 88 then (fM_variableOf_40 n d C M) else (if 90 < x0 then (fM_variableOf_40 n d C M) else (fM_variableOf_41 n d C ((x0 - 88) + 3) M))
set_option maxRecDepth 100000 in
set_option maxHeartbeats 4000000 in
theorem tM_variableOf_19 {n : Nat} (F : FX p s m meth c G R M0 d "HeadCountModel" bM_variableOf 1 (some .int)) (hC : CBs l G d C) : ∀ (x0 : Int32) (M : Mem) (H : Heap) (locs : List Loc) (cells slots : Nat) (ls : Array Slot), fM_variableOf_19 n d C x0 M = some (r, M') → RL G M0 M H locs cells slots → lv_has ls 1 [(0, .int x0)] → W p l e R s m args below meth c H locs cells slots (CQ G below s M0 r M') (F0 m 19 ls []) := by
  obtain ⟨hx, hb, hml, hown, hrt, hlk, hex, hK, hRm⟩ := id F
  intro x0 M H locs cells slots ls h hR hl
  unfold fM_variableOf_19 at h
  refine lv_iload_n hx hb dM_variableOf_19 rfl (lv_at hl 0 rfl) ?_
  refine lv_bipush (v := 88) hx hb dM_variableOf_20 (by decide) ?_
  refine lv_icmp_lt (tgt := 40) hx hb dM_variableOf_22 (by decide) (fun c_1 => ?_) (fun c_1 => ?_)
  · replace h := rz_t c_1 h
    exact tM_variableOf_40 F hC _ _ _ _ _ _ h hR (lv_sub hl [] rfl)
  · replace h := rz_f c_1 h
    refine lv_iload_n hx hb dM_variableOf_25 rfl (lv_at hl 0 rfl) ?_
    refine lv_bipush (v := 90) hx hb dM_variableOf_26 (by decide) ?_
    refine lv_icmp_gt (tgt := 40) hx hb dM_variableOf_28 (by decide) (fun c_2 => ?_) (fun c_2 => ?_)
    · replace h := rz_t c_2 h
      exact tM_variableOf_40 F hC _ _ _ _ _ _ h hR (lv_sub hl [] rfl)
    · replace h := rz_f c_2 h
      refine lv_iload_n hx hb dM_variableOf_31 rfl (lv_at hl 0 rfl) ?_
      refine lv_bipush (v := 88) hx hb dM_variableOf_32 (by decide) ?_
      refine lv_isub hx hb dM_variableOf_34 ?_
      refine lv_iconst (v := 3) hx hb dM_variableOf_35 (by decide) ?_
      refine lv_iadd hx hb dM_variableOf_36 ?_
      refine lv_goto (tgt := 41) hx hb dM_variableOf_37 (by decide) ?_
      exact tM_variableOf_41 F hC ((x0 - 88) + 3) _ _ _ _ _ _ h hR (lv_sub hl [] rfl)
def fM_variableOf_0 (n d : Nat) (C : Cx) (x0 : Int32) (M : Mem) : Rz := if x0 < 105 then (fM_variableOf_19 n d C x0 M) else (if 107 < x0 then (fM_variableOf_19 n d C x0 M) else (fM_variableOf_41 n d C (x0 - 105) M))
set_option maxRecDepth 100000 in
set_option maxHeartbeats 4000000 in
theorem tM_variableOf_0 {n : Nat} (F : FX p s m meth c G R M0 d "HeadCountModel" bM_variableOf 1 (some .int)) (hC : CBs l G d C) : ∀ (x0 : Int32) (M : Mem) (H : Heap) (locs : List Loc) (cells slots : Nat) (ls : Array Slot), fM_variableOf_0 n d C x0 M = some (r, M') → RL G M0 M H locs cells slots → lv_has ls 1 [(0, .int x0)] → W p l e R s m args below meth c H locs cells slots (CQ G below s M0 r M') (F0 m 0 ls []) := by
  obtain ⟨hx, hb, hml, hown, hrt, hlk, hex, hK, hRm⟩ := id F
  intro x0 M H locs cells slots ls h hR hl
  unfold fM_variableOf_0 at h
  refine lv_iload_n hx hb dM_variableOf_0 rfl (lv_at hl 0 rfl) ?_
  refine lv_bipush (v := 105) hx hb dM_variableOf_1 (by decide) ?_
  refine lv_icmp_lt (tgt := 19) hx hb dM_variableOf_3 (by decide) (fun c_1 => ?_) (fun c_1 => ?_)
  · replace h := rz_t c_1 h
    exact tM_variableOf_19 F hC x0 _ _ _ _ _ _ h hR (lv_sub hl [0] rfl)
  · replace h := rz_f c_1 h
    refine lv_iload_n hx hb dM_variableOf_6 rfl (lv_at hl 0 rfl) ?_
    refine lv_bipush (v := 107) hx hb dM_variableOf_7 (by decide) ?_
    refine lv_icmp_gt (tgt := 19) hx hb dM_variableOf_9 (by decide) (fun c_2 => ?_) (fun c_2 => ?_)
    · replace h := rz_t c_2 h
      exact tM_variableOf_19 F hC x0 _ _ _ _ _ _ h hR (lv_sub hl [0] rfl)
    · replace h := rz_f c_2 h
      refine lv_iload_n hx hb dM_variableOf_12 rfl (lv_at hl 0 rfl) ?_
      refine lv_bipush (v := 105) hx hb dM_variableOf_13 (by decide) ?_
      refine lv_isub hx hb dM_variableOf_15 ?_
      refine lv_goto (tgt := 41) hx hb dM_variableOf_16 (by decide) ?_
      exact tM_variableOf_41 F hC (x0 - 105) _ _ _ _ _ _ h hR (lv_sub hl [] rfl)
set_option maxRecDepth 100000 in
set_option maxHeartbeats 4000000 in
theorem sM_variableOf {l : Launch} {G : Gx} {n d : Nat} {C : Cx} (hC : CBs l G d C) (x0 : Int32) {M M' : Mem} {r : Option Value ⊕ Nat} (h : fM_variableOf_0 n d C x0 M = some (r, M')) : CB l G (d + 1) yM_variableOf [.int x0] M r M' := by
  intro p e R s m below meth c hx hn hm hc hlk hK hR hcap hS hU hfr hlo hrc hrs
  obtain ⟨hb, hml, hrt, hex, hown⟩ := fx_of hn hm hc (hK.w mfM_variableOf.2.2.1 rfl #[])
  have F : FX p s m meth c G R M d "HeadCountModel" bM_variableOf 1 (some .int) := ⟨hx, hb, hml, hown, hrt, hlk, hex, hK, hfr, hlo, by rw [← hcap]; exact hrc, hrs⟩
  rw [hml]
  have hl := lv_entry ([.int x0]) (n := 1) (by simp [lg_sl, cat_rf, cat_i, cat_a, cat_l, cat_n])
  rw [lg_entry_eq]
  generalize (lg_sl ([.int x0]) ++ List.replicate (1 - (lg_sl ([.int x0])).length) Slot.unset).toArray = ls at hl ⊢
  have hl : lv_has ls 1 [(0, .int x0)] := by simpa [lv_args, cat_rf, cat_i, cat_a, cat_l, cat_n] using hl
  exact tM_variableOf_0 F hC x0 _ _ _ _ _ _ h (RL.start hR hcap hS hU) (lv_sub hl [0] rfl)
def fM_emit_0 (n d : Nat) (C : Cx) (a0 : Nat) (x1 : Int32) (x2 : Int32) (M : Mem) : Rz := if mK M a0 = 5 then (rzD (mP M a0 14) fun a_2 => (if mK M a_2 = 21 then (if inA (mI M a0 12) (mL M a_2) then (rzM (setI M a_2 (mI M a0 12).toNatClampNeg x1) fun M_6 => (rzD (mP M_6 a0 15) fun a_10 => (if mK M_6 a_10 = 21 then (if inA (mI M_6 a0 12) (mL M_6 a_10) then (rzM (setI M_6 a_10 (mI M_6 a0 12).toNatClampNeg x2) fun M_14 => (rzM (setI M_14 a0 12 ((mI M_14 a0 12) + 1)) fun M_19 => (some (.inl none, M_19)))) else none) else none))) else none) else none)) else none
set_option maxRecDepth 100000 in
set_option maxHeartbeats 4000000 in
theorem tM_emit_0 {n : Nat} (F : FX p s m meth c G R M0 d "HeadCountModel" bM_emit 3 none) (hC : CBs l G d C) : ∀ (a0 : Nat) (x1 : Int32) (x2 : Int32) (M : Mem) (H : Heap) (locs : List Loc) (cells slots : Nat) (ls : Array Slot), fM_emit_0 n d C a0 x1 x2 M = some (r, M') → RL G M0 M H locs cells slots → lv_has ls 3 [(0, .ref a0), (1, .int x1), (2, .int x2)] → W p l e R s m args below meth c H locs cells slots (CQ G below s M0 r M') (F0 m 0 ls []) := by
  obtain ⟨hx, hb, hml, hown, hrt, hlk, hex, hK, hRm⟩ := id F
  intro a0 x1 x2 M H locs cells slots ls h hR hl
  unfold fM_emit_0 at h
  refine lv_aload_n hx hb dM_emit_0 rfl (lv_at hl 0 rfl) ?_
  obtain ⟨c_1, h⟩ := rz_chk h
  refine rg_getP hx hb hown hK hR hk_M 14 (by decide) kf_M_27 rfl c_1 dM_emit_1 ?_
  refine lv_aload_n hx hb dM_emit_4 rfl (lv_at hl 0 rfl) ?_
  refine rg_getI hx hb hown hK hR hk_M 12 (by decide) kf_M_69 rfl c_1 dM_emit_5 ?_
  refine lv_iload_n hx hb dM_emit_8 rfl (lv_at hl 1 rfl) ?_
  obtain ⟨a_2, e_3, h⟩ := rz_d h
  rw [e_3]
  obtain ⟨c_4, h⟩ := rz_chk h
  obtain ⟨c_5, h⟩ := rz_chk h
  obtain ⟨M_6, q_7, h⟩ := rz_m h
  refine rg_iast hx hb hK hR c_4 c_5 dM_emit_9 (fun H locs hR => ?_)
  rw [← q_7] at hR
  have c_8 : mK M_6 a0 = 5 := by rw [q_7]; exact c_1
  have c_9 : mK M_6 a_2 = 21 := by rw [q_7]; exact c_4
  refine lv_aload_n hx hb dM_emit_10 rfl (lv_at hl 0 rfl) ?_
  refine rg_getP hx hb hown hK hR hk_M 15 (by decide) kf_M_30 rfl c_8 dM_emit_11 ?_
  refine lv_aload_n hx hb dM_emit_14 rfl (lv_at hl 0 rfl) ?_
  refine rg_getI hx hb hown hK hR hk_M 12 (by decide) kf_M_69 rfl c_8 dM_emit_15 ?_
  refine lv_iload_n hx hb dM_emit_18 rfl (lv_at hl 2 rfl) ?_
  obtain ⟨a_10, e_11, h⟩ := rz_d h
  rw [e_11]
  obtain ⟨c_12, h⟩ := rz_chk h
  obtain ⟨c_13, h⟩ := rz_chk h
  obtain ⟨M_14, q_15, h⟩ := rz_m h
  refine rg_iast hx hb hK hR c_12 c_13 dM_emit_19 (fun H locs hR => ?_)
  rw [← q_15] at hR
  have c_16 : mK M_14 a0 = 5 := by rw [q_15]; exact c_8
  have c_17 : mK M_14 a_2 = 21 := by rw [q_15]; exact c_9
  have c_18 : mK M_14 a_10 = 21 := by rw [q_15]; exact c_12
  refine lv_aload_n hx hb dM_emit_20 rfl (lv_at hl 0 rfl) ?_
  refine lv_dup hx hb dM_emit_21 rfl ?_
  refine rg_getI hx hb hown hK hR hk_M 12 (by decide) kf_M_69 rfl c_16 dM_emit_22 ?_
  refine lv_iconst (v := 1) hx hb dM_emit_25 (by decide) ?_
  refine lv_iadd hx hb dM_emit_26 ?_
  obtain ⟨M_19, q_20, h⟩ := rz_m h
  refine rg_putI hx hb hown hK hR hk_M 12 (by decide) kf_M_69 rfl rfl (ty := .int) (by decide +kernel) (Or.inl rfl) rfl c_16 dM_emit_27 (fun H locs hR => ?_)
  rw [← q_20] at hR
  have c_21 : mK M_19 a0 = 5 := by rw [q_20]; exact c_16
  have c_22 : mK M_19 a_2 = 21 := by rw [q_20]; exact c_17
  have c_23 : mK M_19 a_10 = 21 := by rw [q_20]; exact c_18
  cases h
  exact rt_v hx hb hlk hrt hR dM_emit_30
set_option maxRecDepth 100000 in
set_option maxHeartbeats 4000000 in
theorem sM_emit {l : Launch} {G : Gx} {n d : Nat} {C : Cx} (hC : CBs l G d C) (a0 : Nat) (x1 : Int32) (x2 : Int32) {M M' : Mem} {r : Option Value ⊕ Nat} (h : fM_emit_0 n d C a0 x1 x2 M = some (r, M')) : CB l G (d + 1) yM_emit [.ref a0, .int x1, .int x2] M r M' := by
  intro p e R s m below meth c hx hn hm hc hlk hK hR hcap hS hU hfr hlo hrc hrs
  obtain ⟨hb, hml, hrt, hex, hown⟩ := fx_of hn hm hc (hK.w mfM_emit.2.2.1 rfl #[])
  have F : FX p s m meth c G R M d "HeadCountModel" bM_emit 3 none := ⟨hx, hb, hml, hown, hrt, hlk, hex, hK, hfr, hlo, by rw [← hcap]; exact hrc, hrs⟩
  rw [hml]
  have hl := lv_entry ([.ref a0, .int x1, .int x2]) (n := 3) (by simp [lg_sl, cat_rf, cat_i, cat_a, cat_l, cat_n])
  rw [lg_entry_eq]
  generalize (lg_sl ([.ref a0, .int x1, .int x2]) ++ List.replicate (3 - (lg_sl ([.ref a0, .int x1, .int x2])).length) Slot.unset).toArray = ls at hl ⊢
  have hl : lv_has ls 3 [(0, .ref a0), (1, .int x1), (2, .int x2)] := by simpa [lv_args, cat_rf, cat_i, cat_a, cat_l, cat_n] using hl
  exact tM_emit_0 F hC a0 x1 x2 _ _ _ _ _ _ h (RL.start hR hcap hS hU) (lv_sub hl [0, 1, 2] rfl)
def fM_settle_16 (n d : Nat) (C : Cx) (k0 : Nat → Int32 → Int32 → Mem → Rz) (a0 : Nat) (x1 : Int32) (x2 : Int32) (M : Mem) : Rz := if mK M a0 = 5 then (rzM (setI M a0 19 ((mI M a0 19) - 1)) fun M_2 => (rzD (mP M_2 a0 20) fun a_5 => (if mK M_2 a_5 = 21 then (if inA (mI M_2 a0 19) (mL M_2 a_5) then (rzC (C 81 [.ref a0, .int (mI M_2 a_5 (mI M_2 a0 19).toNatClampNeg), .int 0] M_2) fun v_9 M_10 => (rzV v_9 (k0 a0 x1 x2 M_10))) else none) else none))) else none
set_option maxRecDepth 100000 in
set_option maxHeartbeats 4000000 in
theorem tM_settle_16 {n : Nat} {k0 : Nat → Int32 → Int32 → Mem → Rz} (F : FX p s m meth c G R M0 d "HeadCountModel" bM_settle 3 none) (hC : CBs l G d C) (hk0 : ∀ (a0 : Nat) (x1 : Int32) (x2 : Int32) (M : Mem) (H : Heap) (locs : List Loc) (cells slots : Nat) (ls : Array Slot), k0 a0 x1 x2 M = some (r, M') → RL G M0 M H locs cells slots → lv_has ls 3 [(0, .ref a0), (1, .int x1), (2, .int x2)] → W p l e R s m args below meth c H locs cells slots (CQ G below s M0 r M') (F0 m 0 ls [])) : ∀ (a0 : Nat) (x1 : Int32) (x2 : Int32) (M : Mem) (H : Heap) (locs : List Loc) (cells slots : Nat) (ls : Array Slot), fM_settle_16 n d C k0 a0 x1 x2 M = some (r, M') → RL G M0 M H locs cells slots → lv_has ls 3 [(0, .ref a0), (1, .int x1), (2, .int x2)] → W p l e R s m args below meth c H locs cells slots (CQ G below s M0 r M') (F0 m 16 ls []) := by
  obtain ⟨hx, hb, hml, hown, hrt, hlk, hex, hK, hRm⟩ := id F
  intro a0 x1 x2 M H locs cells slots ls h hR hl
  unfold fM_settle_16 at h
  refine lv_aload_n hx hb dM_settle_16 rfl (lv_at hl 0 rfl) ?_
  refine lv_dup hx hb dM_settle_17 rfl ?_
  obtain ⟨c_1, h⟩ := rz_chk h
  refine rg_getI hx hb hown hK hR hk_M 19 (by decide) kf_M_72 rfl c_1 dM_settle_18 ?_
  refine lv_iconst (v := 1) hx hb dM_settle_21 (by decide) ?_
  refine lv_isub hx hb dM_settle_22 ?_
  obtain ⟨M_2, q_3, h⟩ := rz_m h
  refine rg_putI hx hb hown hK hR hk_M 19 (by decide) kf_M_72 rfl rfl (ty := .int) (by decide +kernel) (Or.inl rfl) rfl c_1 dM_settle_23 (fun H locs hR => ?_)
  rw [← q_3] at hR
  have c_4 : mK M_2 a0 = 5 := by rw [q_3]; exact c_1
  refine lv_aload_n hx hb dM_settle_26 rfl (lv_at hl 0 rfl) ?_
  refine lv_aload_n hx hb dM_settle_27 rfl (lv_at hl 0 rfl) ?_
  refine rg_getP hx hb hown hK hR hk_M 20 (by decide) kf_M_39 rfl c_4 dM_settle_28 ?_
  refine lv_aload_n hx hb dM_settle_31 rfl (lv_at hl 0 rfl) ?_
  refine rg_getI hx hb hown hK hR hk_M 19 (by decide) kf_M_72 rfl c_4 dM_settle_32 ?_
  obtain ⟨a_5, e_6, h⟩ := rz_d h
  rw [e_6]
  obtain ⟨c_7, h⟩ := rz_chk h
  obtain ⟨c_8, h⟩ := rz_chk h
  refine rg_iald hx hb hK hR c_7 c_8 dM_settle_35 ?_
  refine lv_iconst (v := 0) hx hb dM_settle_36 (by decide) ?_
  obtain ⟨q_12, M_10, h_11, h⟩ := rz_c h
  refine rc_V (rest := []) (As := [.int (mI M_2 a_5 (mI M_2 a0 19).toNatClampNeg), .int 0]) hx hb (hl.1.trans hml.symm) hown hK hR hRm mfM_emit kl_M_86 hk_M rfl rfl c_4 (by simp [cat_rf, cat_i, cat_a, cat_l, cat_n]) (hC 81 _ _ _ _ h_11) dM_settle_37 (fun v1 H locs cells slots ev hR => ?_) (fun x1 q1 ce1 H locs cells slots ex hR g1 g2 g3 => ?_)
  · rcases h with ⟨v_9, ev2, h⟩ | ⟨e2, ee2, -⟩
    · cases ev.symm.trans ev2
      replace h := rz_v h
      obtain ⟨rfl, h⟩ := h
      dsimp only [Option.toList, List.cons_append, List.nil_append]
      refine lv_goto (tgt := 0) hx hb dM_settle_40 (by decide) ?_
      exact hk0 a0 x1 x2 _ _ _ _ _ _ h hR (lv_sub hl [0, 1, 2] rfl)
    · cases ev.symm.trans ee2
  · rcases h with ⟨v2, ev2, -⟩ | ⟨e2, ee2, h⟩
    · cases ex.symm.trans ev2
    · cases ex.symm.trans ee2
      cases h
      exact rt_x hlk hex hR g1 g2 g3
def fM_settle_0 (n d : Nat) (C : Cx) : Nat → Nat → Int32 → Int32 → Mem → Rz
  | 0, _, _, _, _ => none
  | w + 1, a0, x1, x2, M => if mK M a0 = 5 then (rzC (C 85 [.ref a0] M) fun v_2 M_3 => (rzI v_2 fun x_6 => (if x_6 = x1 then (fM_settle_16 n d C (fM_settle_0 n d C w) a0 x1 x2 M_3) else (if mK M_3 a0 = 5 then (rzC (C 85 [.ref a0] M_3) fun v_9 M_10 => (rzI v_9 fun x_13 => (if x_13 = x2 then (fM_settle_16 n d C (fM_settle_0 n d C w) a0 x1 x2 M_10) else (some (.inl none, M_10))))) else none)))) else none
set_option maxRecDepth 100000 in
set_option maxHeartbeats 4000000 in
theorem tM_settle_0 {n : Nat} (F : FX p s m meth c G R M0 d "HeadCountModel" bM_settle 3 none) (hC : CBs l G d C) : ∀ (w : Nat) (a0 : Nat) (x1 : Int32) (x2 : Int32) (M : Mem) (H : Heap) (locs : List Loc) (cells slots : Nat) (ls : Array Slot), fM_settle_0 n d C w a0 x1 x2 M = some (r, M') → RL G M0 M H locs cells slots → lv_has ls 3 [(0, .ref a0), (1, .int x1), (2, .int x2)] → W p l e R s m args below meth c H locs cells slots (CQ G below s M0 r M') (F0 m 0 ls []) := by
  obtain ⟨hx, hb, hml, hown, hrt, hlk, hex, hK, hRm⟩ := id F
  intro w
  induction w with
  | zero => intro a0 x1 x2 M H locs cells slots ls h; cases h
  | succ w ih =>
    intro a0 x1 x2 M H locs cells slots ls h hR hl
    rw [fM_settle_0] at h
    refine lv_aload_n hx hb dM_settle_0 rfl (lv_at hl 0 rfl) ?_
    obtain ⟨c_1, h⟩ := rz_chk h
    obtain ⟨q_5, M_3, h_4, h⟩ := rz_c h
    refine rc_V (rest := []) (As := []) hx hb (hl.1.trans hml.symm) hown hK hR hRm mfM_upper kl_M_82 hk_M rfl rfl c_1 (by simp [cat_rf, cat_i, cat_a, cat_l, cat_n]) (hC 85 _ _ _ _ h_4) dM_settle_1 (fun v1 H locs cells slots ev hR => ?_) (fun x1 q1 ce1 H locs cells slots ex hR g1 g2 g3 => ?_)
    · rcases h with ⟨v_2, ev2, h⟩ | ⟨e2, ee2, -⟩
      · cases ev.symm.trans ev2
        replace h := rz_i h
        obtain ⟨x_6, rfl, h⟩ := h
        dsimp only [Option.toList, List.cons_append, List.nil_append]
        refine lv_iload_n hx hb dM_settle_4 rfl (lv_at hl 1 rfl) ?_
        refine lv_icmp_eq (tgt := 16) hx hb dM_settle_5 (by decide) (fun c_7 => ?_) (fun c_7 => ?_)
        · replace h := rz_t c_7 h
          exact tM_settle_16 F hC ih a0 x1 x2 _ _ _ _ _ _ h hR (lv_sub hl [0, 1, 2] rfl)
        · replace h := rz_f c_7 h
          refine lv_aload_n hx hb dM_settle_8 rfl (lv_at hl 0 rfl) ?_
          obtain ⟨c_8, h⟩ := rz_chk h
          obtain ⟨q_12, M_10, h_11, h⟩ := rz_c h
          refine rc_V (rest := []) (As := []) hx hb (hl.1.trans hml.symm) hown hK hR hRm mfM_upper kl_M_82 hk_M rfl rfl c_8 (by simp [cat_rf, cat_i, cat_a, cat_l, cat_n]) (hC 85 _ _ _ _ h_11) dM_settle_9 (fun v1 H locs cells slots ev hR => ?_) (fun x1 q1 ce1 H locs cells slots ex hR g1 g2 g3 => ?_)
          · rcases h with ⟨v_9, ev2, h⟩ | ⟨e2, ee2, -⟩
            · cases ev.symm.trans ev2
              replace h := rz_i h
              obtain ⟨x_13, rfl, h⟩ := h
              dsimp only [Option.toList, List.cons_append, List.nil_append]
              refine lv_iload_n hx hb dM_settle_12 rfl (lv_at hl 2 rfl) ?_
              refine lv_icmp_ne (tgt := 43) hx hb dM_settle_13 (by decide) (fun c_14 => ?_) (fun c_14 => ?_)
              · replace h := rz_f c_14 h
                cases h
                exact rt_v hx hb hlk hrt hR dM_settle_43
              · replace h := rz_t c_14 h
                exact tM_settle_16 F hC ih a0 x1 x2 _ _ _ _ _ _ h hR (lv_sub hl [0, 1, 2] rfl)
            · cases ev.symm.trans ee2
          · rcases h with ⟨v2, ev2, -⟩ | ⟨e2, ee2, h⟩
            · cases ex.symm.trans ev2
            · cases ex.symm.trans ee2
              cases h
              exact rt_x hlk hex hR g1 g2 g3
      · cases ev.symm.trans ee2
    · rcases h with ⟨v2, ev2, -⟩ | ⟨e2, ee2, h⟩
      · cases ex.symm.trans ev2
      · cases ex.symm.trans ee2
        cases h
        exact rt_x hlk hex hR g1 g2 g3
set_option maxRecDepth 100000 in
set_option maxHeartbeats 4000000 in
theorem sM_settle {l : Launch} {G : Gx} {n d : Nat} {C : Cx} (hC : CBs l G d C) (a0 : Nat) (x1 : Int32) (x2 : Int32) {M M' : Mem} {r : Option Value ⊕ Nat} (h : fM_settle_0 n d C n a0 x1 x2 M = some (r, M')) : CB l G (d + 1) yM_settle [.ref a0, .int x1, .int x2] M r M' := by
  intro p e R s m below meth c hx hn hm hc hlk hK hR hcap hS hU hfr hlo hrc hrs
  obtain ⟨hb, hml, hrt, hex, hown⟩ := fx_of hn hm hc (hK.w mfM_settle.2.2.1 rfl #[])
  have F : FX p s m meth c G R M d "HeadCountModel" bM_settle 3 none := ⟨hx, hb, hml, hown, hrt, hlk, hex, hK, hfr, hlo, by rw [← hcap]; exact hrc, hrs⟩
  rw [hml]
  have hl := lv_entry ([.ref a0, .int x1, .int x2]) (n := 3) (by simp [lg_sl, cat_rf, cat_i, cat_a, cat_l, cat_n])
  rw [lg_entry_eq]
  generalize (lg_sl ([.ref a0, .int x1, .int x2]) ++ List.replicate (3 - (lg_sl ([.ref a0, .int x1, .int x2])).length) Slot.unset).toArray = ls at hl ⊢
  have hl : lv_has ls 3 [(0, .ref a0), (1, .int x1), (2, .int x2)] := by simpa [lv_args, cat_rf, cat_i, cat_a, cat_l, cat_n] using hl
  exact tM_settle_0 F hC n a0 x1 x2 _ _ _ _ _ _ h (RL.start hR hcap hS hU) (lv_sub hl [0, 1, 2] rfl)
def fM_upper_22 (n d : Nat) (C : Cx) (xs0 : Int32) (M : Mem) : Rz := some (.inl (some (.int xs0)), M)
set_option maxRecDepth 100000 in
set_option maxHeartbeats 4000000 in
theorem tM_upper_22 {n : Nat} (F : FX p s m meth c G R M0 d "HeadCountModel" bM_upper 1 (some .int)) (hC : CBs l G d C) : ∀ (xs0 : Int32) (M : Mem) (H : Heap) (locs : List Loc) (cells slots : Nat) (ls : Array Slot), fM_upper_22 n d C xs0 M = some (r, M') → RL G M0 M H locs cells slots → lv_has ls 1 [] → W p l e R s m args below meth c H locs cells slots (CQ G below s M0 r M') (F0 m 22 ls [.int xs0]) := by
  obtain ⟨hx, hb, hml, hown, hrt, hlk, hex, hK, hRm⟩ := id F
  intro xs0 M H locs cells slots ls h hR hl
  unfold fM_upper_22 at h
  cases h
  exact rt_i hx hb hlk hrt (Or.inl rfl) rfl hR dM_upper_22
def fM_upper_0 (n d : Nat) (C : Cx) (a0 : Nat) (M : Mem) : Rz := if mK M a0 = 5 then (if (mI M a0 19) = 0 then (fM_upper_22 n d C 0 M) else (rzD (mP M a0 20) fun a_3 => (if mK M a_3 = 21 then (if inA ((mI M a0 19) - 1) (mL M a_3) then (fM_upper_22 n d C (mI M a_3 ((mI M a0 19) - 1).toNatClampNeg) M) else none) else none))) else none
set_option maxRecDepth 100000 in
set_option maxHeartbeats 4000000 in
theorem tM_upper_0 {n : Nat} (F : FX p s m meth c G R M0 d "HeadCountModel" bM_upper 1 (some .int)) (hC : CBs l G d C) : ∀ (a0 : Nat) (M : Mem) (H : Heap) (locs : List Loc) (cells slots : Nat) (ls : Array Slot), fM_upper_0 n d C a0 M = some (r, M') → RL G M0 M H locs cells slots → lv_has ls 1 [(0, .ref a0)] → W p l e R s m args below meth c H locs cells slots (CQ G below s M0 r M') (F0 m 0 ls []) := by
  obtain ⟨hx, hb, hml, hown, hrt, hlk, hex, hK, hRm⟩ := id F
  intro a0 M H locs cells slots ls h hR hl
  unfold fM_upper_0 at h
  refine lv_aload_n hx hb dM_upper_0 rfl (lv_at hl 0 rfl) ?_
  obtain ⟨c_1, h⟩ := rz_chk h
  refine rg_getI hx hb hown hK hR hk_M 19 (by decide) kf_M_72 rfl c_1 dM_upper_1 ?_
  refine lv_if_ne (tgt := 11) hx hb dM_upper_4 (by decide) (fun c_2 => ?_) (fun c_2 => ?_)
  · replace h := rz_f c_2 h
    refine lv_aload_n hx hb dM_upper_11 rfl (lv_at hl 0 rfl) ?_
    refine rg_getP hx hb hown hK hR hk_M 20 (by decide) kf_M_39 rfl c_1 dM_upper_12 ?_
    refine lv_aload_n hx hb dM_upper_15 rfl (lv_at hl 0 rfl) ?_
    refine rg_getI hx hb hown hK hR hk_M 19 (by decide) kf_M_72 rfl c_1 dM_upper_16 ?_
    refine lv_iconst (v := 1) hx hb dM_upper_19 (by decide) ?_
    refine lv_isub hx hb dM_upper_20 ?_
    obtain ⟨a_3, e_4, h⟩ := rz_d h
    rw [e_4]
    obtain ⟨c_5, h⟩ := rz_chk h
    obtain ⟨c_6, h⟩ := rz_chk h
    refine rg_iald hx hb hK hR c_5 c_6 dM_upper_21 ?_
    exact tM_upper_22 F hC (mI M a_3 ((mI M a0 19) - 1).toNatClampNeg) _ _ _ _ _ _ h hR (lv_sub hl [] rfl)
  · replace h := rz_t c_2 h
    refine lv_iconst (v := 0) hx hb dM_upper_7 (by decide) ?_
    refine lv_goto (tgt := 22) hx hb dM_upper_8 (by decide) ?_
    exact tM_upper_22 F hC 0 _ _ _ _ _ _ h hR (lv_sub hl [] rfl)
set_option maxRecDepth 100000 in
set_option maxHeartbeats 4000000 in
theorem sM_upper {l : Launch} {G : Gx} {n d : Nat} {C : Cx} (hC : CBs l G d C) (a0 : Nat) {M M' : Mem} {r : Option Value ⊕ Nat} (h : fM_upper_0 n d C a0 M = some (r, M')) : CB l G (d + 1) yM_upper [.ref a0] M r M' := by
  intro p e R s m below meth c hx hn hm hc hlk hK hR hcap hS hU hfr hlo hrc hrs
  obtain ⟨hb, hml, hrt, hex, hown⟩ := fx_of hn hm hc (hK.w mfM_upper.2.2.1 rfl #[])
  have F : FX p s m meth c G R M d "HeadCountModel" bM_upper 1 (some .int) := ⟨hx, hb, hml, hown, hrt, hlk, hex, hK, hfr, hlo, by rw [← hcap]; exact hrc, hrs⟩
  rw [hml]
  have hl := lv_entry ([.ref a0]) (n := 1) (by simp [lg_sl, cat_rf, cat_i, cat_a, cat_l, cat_n])
  rw [lg_entry_eq]
  generalize (lg_sl ([.ref a0]) ++ List.replicate (1 - (lg_sl ([.ref a0])).length) Slot.unset).toArray = ls at hl ⊢
  have hl : lv_has ls 1 [(0, .ref a0)] := by simpa [lv_args, cat_rf, cat_i, cat_a, cat_l, cat_n] using hl
  exact tM_upper_0 F hC a0 _ _ _ _ _ _ h (RL.start hR hcap hS hU) (lv_sub hl [0] rfl)
def fM_close_0 (n d : Nat) (C : Cx) (a0 : Nat) (M : Mem) : Rz := if mK M a0 = 5 then (rzM (setI M a0 19 ((mI M a0 19) - 1)) fun M_2 => (rzM (setI M_2 a0 24 ((mI M_2 a0 24) - 1)) fun M_5 => (some (.inl none, M_5)))) else none
set_option maxRecDepth 100000 in
set_option maxHeartbeats 4000000 in
theorem tM_close_0 {n : Nat} (F : FX p s m meth c G R M0 d "HeadCountModel" bM_close 1 none) (hC : CBs l G d C) : ∀ (a0 : Nat) (M : Mem) (H : Heap) (locs : List Loc) (cells slots : Nat) (ls : Array Slot), fM_close_0 n d C a0 M = some (r, M') → RL G M0 M H locs cells slots → lv_has ls 1 [(0, .ref a0)] → W p l e R s m args below meth c H locs cells slots (CQ G below s M0 r M') (F0 m 0 ls []) := by
  obtain ⟨hx, hb, hml, hown, hrt, hlk, hex, hK, hRm⟩ := id F
  intro a0 M H locs cells slots ls h hR hl
  unfold fM_close_0 at h
  refine lv_aload_n hx hb dM_close_0 rfl (lv_at hl 0 rfl) ?_
  refine lv_dup hx hb dM_close_1 rfl ?_
  obtain ⟨c_1, h⟩ := rz_chk h
  refine rg_getI hx hb hown hK hR hk_M 19 (by decide) kf_M_72 rfl c_1 dM_close_2 ?_
  refine lv_iconst (v := 1) hx hb dM_close_5 (by decide) ?_
  refine lv_isub hx hb dM_close_6 ?_
  obtain ⟨M_2, q_3, h⟩ := rz_m h
  refine rg_putI hx hb hown hK hR hk_M 19 (by decide) kf_M_72 rfl rfl (ty := .int) (by decide +kernel) (Or.inl rfl) rfl c_1 dM_close_7 (fun H locs hR => ?_)
  rw [← q_3] at hR
  have c_4 : mK M_2 a0 = 5 := by rw [q_3]; exact c_1
  refine lv_aload_n hx hb dM_close_10 rfl (lv_at hl 0 rfl) ?_
  refine lv_dup hx hb dM_close_11 rfl ?_
  refine rg_getI hx hb hown hK hR hk_M 24 (by decide) kf_M_75 rfl c_4 dM_close_12 ?_
  refine lv_iconst (v := 1) hx hb dM_close_15 (by decide) ?_
  refine lv_isub hx hb dM_close_16 ?_
  obtain ⟨M_5, q_6, h⟩ := rz_m h
  refine rg_putI hx hb hown hK hR hk_M 24 (by decide) kf_M_75 rfl rfl (ty := .int) (by decide +kernel) (Or.inl rfl) rfl c_4 dM_close_17 (fun H locs hR => ?_)
  rw [← q_6] at hR
  have c_7 : mK M_5 a0 = 5 := by rw [q_6]; exact c_4
  cases h
  exact rt_v hx hb hlk hrt hR dM_close_20
set_option maxRecDepth 100000 in
set_option maxHeartbeats 4000000 in
theorem sM_close {l : Launch} {G : Gx} {n d : Nat} {C : Cx} (hC : CBs l G d C) (a0 : Nat) {M M' : Mem} {r : Option Value ⊕ Nat} (h : fM_close_0 n d C a0 M = some (r, M')) : CB l G (d + 1) yM_close [.ref a0] M r M' := by
  intro p e R s m below meth c hx hn hm hc hlk hK hR hcap hS hU hfr hlo hrc hrs
  obtain ⟨hb, hml, hrt, hex, hown⟩ := fx_of hn hm hc (hK.w mfM_close.2.2.1 rfl #[])
  have F : FX p s m meth c G R M d "HeadCountModel" bM_close 1 none := ⟨hx, hb, hml, hown, hrt, hlk, hex, hK, hfr, hlo, by rw [← hcap]; exact hrc, hrs⟩
  rw [hml]
  have hl := lv_entry ([.ref a0]) (n := 1) (by simp [lg_sl, cat_rf, cat_i, cat_a, cat_l, cat_n])
  rw [lg_entry_eq]
  generalize (lg_sl ([.ref a0]) ++ List.replicate (1 - (lg_sl ([.ref a0])).length) Slot.unset).toArray = ls at hl ⊢
  have hl : lv_has ls 1 [(0, .ref a0)] := by simpa [lv_args, cat_rf, cat_i, cat_a, cat_l, cat_n] using hl
  exact tM_close_0 F hC a0 _ _ _ _ _ _ h (RL.start hR hcap hS hU) (lv_sub hl [0] rfl)
end
