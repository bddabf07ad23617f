theorem dM_holds_0 : decode bM_holds 0 = .ok (.aload_n 0, 1) := by decide +kernel
theorem dM_holds_1 : decode bM_holds 1 = .ok (.aload_n 0, 1) := by decide +kernel
theorem dM_holds_2 : decode bM_holds 2 = .ok (.getfield 194, 3) := by decide +kernel
theorem dM_holds_5 : decode bM_holds 5 = .ok (.ifCond .ne 7, 3) := by decide +kernel
theorem dM_holds_8 : decode bM_holds 8 = .ok (.iconst 1, 1) := by decide +kernel
theorem dM_holds_9 : decode bM_holds 9 = .ok (.goto 15, 3) := by decide +kernel
theorem dM_holds_12 : decode bM_holds 12 = .ok (.iload_n 1, 1) := by decide +kernel
theorem dM_holds_13 : decode bM_holds 13 = .ok (.invokestatic 238, 3) := by decide +kernel
theorem dM_holds_16 : decode bM_holds 16 = .ok (.ifCond .ne 7, 3) := by decide +kernel
theorem dM_holds_19 : decode bM_holds 19 = .ok (.iconst 2, 1) := by decide +kernel
theorem dM_holds_20 : decode bM_holds 20 = .ok (.goto 4, 3) := by decide +kernel
theorem dM_holds_23 : decode bM_holds 23 = .ok (.iconst 0, 1) := by decide +kernel
theorem dM_holds_24 : decode bM_holds 24 = .ok (.putfield 60, 3) := by decide +kernel
theorem dM_holds_27 : decode bM_holds 27 = .ok (.aload_n 0, 1) := by decide +kernel
theorem dM_holds_28 : decode bM_holds 28 = .ok (.getfield 60, 3) := by decide +kernel
theorem dM_holds_31 : decode bM_holds 31 = .ok (.ifCond .ne 16, 3) := by decide +kernel
theorem dM_holds_34 : decode bM_holds 34 = .ok (.aload_n 0, 1) := by decide +kernel
theorem dM_holds_35 : decode bM_holds 35 = .ok (.iload_n 1, 1) := by decide +kernel
theorem dM_holds_36 : decode bM_holds 36 = .ok (.iconst 0, 1) := by decide +kernel
theorem dM_holds_37 : decode bM_holds 37 = .ok (.invokevirtual 241, 3) := by decide +kernel
theorem dM_holds_40 : decode bM_holds 40 = .ok (.ifCond .eq 7, 3) := by decide +kernel
theorem dM_holds_43 : decode bM_holds 43 = .ok (.iconst 1, 1) := by decide +kernel
theorem dM_holds_44 : decode bM_holds 44 = .ok (.goto 4, 3) := by decide +kernel
theorem dM_holds_47 : decode bM_holds 47 = .ok (.iconst 0, 1) := by decide +kernel
theorem dM_holds_48 : decode bM_holds 48 = .ok (.ireturn, 1) := by decide +kernel
theorem dM_isSize_0 : decode bM_isSize 0 = .ok (.iload_n 0, 1) := by decide +kernel
theorem dM_isSize_1 : decode bM_isSize 1 = .ok (.ifCond .lt 12, 3) := by decide +kernel
theorem dM_isSize_4 : decode bM_isSize 4 = .ok (.iload_n 0, 1) := by decide +kernel
theorem dM_isSize_5 : decode bM_isSize 5 = .ok (.iconst 4, 1) := by decide +kernel
theorem dM_isSize_6 : decode bM_isSize 6 = .ok (.if_icmp .gt 7, 3) := by decide +kernel
theorem dM_isSize_9 : decode bM_isSize 9 = .ok (.iconst 1, 1) := by decide +kernel
theorem dM_isSize_10 : decode bM_isSize 10 = .ok (.goto 4, 3) := by decide +kernel
theorem dM_isSize_13 : decode bM_isSize 13 = .ok (.iconst 0, 1) := by decide +kernel
theorem dM_isSize_14 : decode bM_isSize 14 = .ok (.ireturn, 1) := by decide +kernel
theorem dM_run_0 : decode bM_run 0 = .ok (.aload_n 0, 1) := by decide +kernel
theorem dM_run_1 : decode bM_run 1 = .ok (.iload_n 1, 1) := by decide +kernel
theorem dM_run_2 : decode bM_run 2 = .ok (.putfield 216, 3) := by decide +kernel
theorem dM_run_5 : decode bM_run 5 = .ok (.aload_n 0, 1) := by decide +kernel
theorem dM_run_6 : decode bM_run 6 = .ok (.iconst 0, 1) := by decide +kernel
theorem dM_run_7 : decode bM_run 7 = .ok (.putfield 206, 3) := by decide +kernel
theorem dM_run_10 : decode bM_run 10 = .ok (.aload_n 0, 1) := by decide +kernel
theorem dM_run_11 : decode bM_run 11 = .ok (.iconst 0, 1) := by decide +kernel
theorem dM_run_12 : decode bM_run 12 = .ok (.putfield 222, 3) := by decide +kernel
theorem dM_run_15 : decode bM_run 15 = .ok (.iconst 0, 1) := by decide +kernel
theorem dM_run_16 : decode bM_run 16 = .ok (.istore_n 3, 1) := by decide +kernel
theorem dM_run_17 : decode bM_run 17 = .ok (.iload_n 3, 1) := by decide +kernel
theorem dM_run_18 : decode bM_run 18 = .ok (.aload_n 0, 1) := by decide +kernel
theorem dM_run_19 : decode bM_run 19 = .ok (.getfield 197, 3) := by decide +kernel
theorem dM_run_22 : decode bM_run 22 = .ok (.if_icmp .ge 177, 3) := by decide +kernel
theorem dM_run_25 : decode bM_run 25 = .ok (.aload_n 0, 1) := by decide +kernel
theorem dM_run_26 : decode bM_run 26 = .ok (.getfield 13, 3) := by decide +kernel
theorem dM_run_29 : decode bM_run 29 = .ok (.iload_n 3, 1) := by decide +kernel
theorem dM_run_30 : decode bM_run 30 = .ok (.iaload, 1) := by decide +kernel
theorem dM_run_31 : decode bM_run 31 = .ok (.istore 4, 2) := by decide +kernel
theorem dM_run_33 : decode bM_run 33 = .ok (.aload_n 0, 1) := by decide +kernel
theorem dM_run_34 : decode bM_run 34 = .ok (.getfield 17, 3) := by decide +kernel
theorem dM_run_37 : decode bM_run 37 = .ok (.iload_n 3, 1) := by decide +kernel
theorem dM_run_38 : decode bM_run 38 = .ok (.iaload, 1) := by decide +kernel
theorem dM_run_39 : decode bM_run 39 = .ok (.istore 5, 2) := by decide +kernel
theorem dM_run_41 : decode bM_run 41 = .ok (.iload_n 3, 1) := by decide +kernel
theorem dM_run_42 : decode bM_run 42 = .ok (.iconst 1, 1) := by decide +kernel
theorem dM_run_43 : decode bM_run 43 = .ok (.iadd, 1) := by decide +kernel
theorem dM_run_44 : decode bM_run 44 = .ok (.istore 6, 2) := by decide +kernel
theorem dM_run_46 : decode bM_run 46 = .ok (.iload 4, 2) := by decide +kernel
theorem dM_run_48 : decode bM_run 48 = .ok (.bipush 12, 2) := by decide +kernel
theorem dM_run_50 : decode bM_run 50 = .ok (.if_icmp .ne 38, 3) := by decide +kernel
theorem dM_run_53 : decode bM_run 53 = .ok (.aload_n 0, 1) := by decide +kernel
theorem dM_run_54 : decode bM_run 54 = .ok (.getfield 51, 3) := by decide +kernel
theorem dM_run_57 : decode bM_run 57 = .ok (.iload 5, 2) := by decide +kernel
theorem dM_run_59 : decode bM_run 59 = .ok (.aload_n 0, 1) := by decide +kernel
theorem dM_run_60 : decode bM_run 60 = .ok (.getfield 24, 3) := by decide +kernel
theorem dM_run_63 : decode bM_run 63 = .ok (.iload 5, 2) := by decide +kernel
theorem dM_run_65 : decode bM_run 65 = .ok (.baload, 1) := by decide +kernel
theorem dM_run_66 : decode bM_run 66 = .ok (.ifCond .eq 7, 3) := by decide +kernel
theorem dM_run_69 : decode bM_run 69 = .ok (.iconst 0, 1) := by decide +kernel
theorem dM_run_70 : decode bM_run 70 = .ok (.goto 5, 3) := by decide +kernel
theorem dM_run_73 : decode bM_run 73 = .ok (.bipush (-8), 2) := by decide +kernel
theorem dM_run_75 : decode bM_run 75 = .ok (.iastore, 1) := by decide +kernel
theorem dM_run_76 : decode bM_run 76 = .ok (.aload_n 0, 1) := by decide +kernel
theorem dM_run_77 : decode bM_run 77 = .ok (.getfield 54, 3) := by decide +kernel
theorem dM_run_80 : decode bM_run 80 = .ok (.iload 5, 2) := by decide +kernel
theorem dM_run_82 : decode bM_run 82 = .ok (.iload 6, 2) := by decide +kernel
theorem dM_run_84 : decode bM_run 84 = .ok (.iastore, 1) := by decide +kernel
theorem dM_run_85 : decode bM_run 85 = .ok (.goto 108, 3) := by decide +kernel
theorem dM_run_88 : decode bM_run 88 = .ok (.iload 4, 2) := by decide +kernel
theorem dM_run_90 : decode bM_run 90 = .ok (.iconst 5, 1) := by decide +kernel
theorem dM_run_91 : decode bM_run 91 = .ok (.if_icmp .ne 57, 3) := by decide +kernel
theorem dM_run_94 : decode bM_run 94 = .ok (.aload_n 0, 1) := by decide +kernel
theorem dM_run_95 : decode bM_run 95 = .ok (.invokevirtual 209, 3) := by decide +kernel
theorem dM_run_98 : decode bM_run 98 = .ok (.istore 7, 2) := by decide +kernel
theorem dM_run_100 : decode bM_run 100 = .ok (.aload_n 0, 1) := by decide +kernel
theorem dM_run_101 : decode bM_run 101 = .ok (.iload 5, 2) := by decide +kernel
theorem dM_run_103 : decode bM_run 103 = .ok (.iload 7, 2) := by decide +kernel
theorem dM_run_105 : decode bM_run 105 = .ok (.iload_n 2, 1) := by decide +kernel
theorem dM_run_106 : decode bM_run 106 = .ok (.ifCond .eq 12, 3) := by decide +kernel
theorem dM_run_109 : decode bM_run 109 = .ok (.iload 5, 2) := by decide +kernel
theorem dM_run_111 : decode bM_run 111 = .ok (.ifCond .ne 7, 3) := by decide +kernel
theorem dM_run_114 : decode bM_run 114 = .ok (.iconst 1, 1) := by decide +kernel
theorem dM_run_115 : decode bM_run 115 = .ok (.goto 4, 3) := by decide +kernel
theorem dM_run_118 : decode bM_run 118 = .ok (.iconst 0, 1) := by decide +kernel
theorem dM_run_119 : decode bM_run 119 = .ok (.invokevirtual 228, 3) := by decide +kernel
theorem dM_run_122 : decode bM_run 122 = .ok (.ifCond .ne 23, 3) := by decide +kernel
theorem dM_run_125 : decode bM_run 125 = .ok (.aload_n 0, 1) := by decide +kernel
theorem dM_run_126 : decode bM_run 126 = .ok (.getfield 51, 3) := by decide +kernel
theorem dM_run_129 : decode bM_run 129 = .ok (.iload 5, 2) := by decide +kernel
theorem dM_run_131 : decode bM_run 131 = .ok (.dup2, 1) := by decide +kernel
theorem dM_run_132 : decode bM_run 132 = .ok (.iaload, 1) := by decide +kernel
theorem dM_run_133 : decode bM_run 133 = .ok (.iconst 1, 1) := by decide +kernel
theorem dM_run_134 : decode bM_run 134 = .ok (.iadd, 1) := by decide +kernel
theorem dM_run_135 : decode bM_run 135 = .ok (.iastore, 1) := by decide +kernel
theorem dM_run_136 : decode bM_run 136 = .ok (.aload_n 0, 1) := by decide +kernel
theorem dM_run_137 : decode bM_run 137 = .ok (.getfield 54, 3) := by decide +kernel
theorem dM_run_140 : decode bM_run 140 = .ok (.iload 5, 2) := by decide +kernel
theorem dM_run_142 : decode bM_run 142 = .ok (.iaload, 1) := by decide +kernel
theorem dM_run_143 : decode bM_run 143 = .ok (.istore 6, 2) := by decide +kernel
theorem dM_run_145 : decode bM_run 145 = .ok (.goto 48, 3) := by decide +kernel
theorem dM_run_148 : decode bM_run 148 = .ok (.iload 4, 2) := by decide +kernel
theorem dM_run_150 : decode bM_run 150 = .ok (.bipush 13, 2) := by decide +kernel
theorem dM_run_152 : decode bM_run 152 = .ok (.if_icmp .lt 10, 3) := by decide +kernel
theorem dM_run_155 : decode bM_run 155 = .ok (.iload 4, 2) := by decide +kernel
theorem dM_run_157 : decode bM_run 157 = .ok (.bipush 18, 2) := by decide +kernel
theorem dM_run_159 : decode bM_run 159 = .ok (.if_icmp .le 17, 3) := by decide +kernel
theorem dM_run_162 : decode bM_run 162 = .ok (.iload 4, 2) := by decide +kernel
theorem dM_run_164 : decode bM_run 164 = .ok (.bipush 21, 2) := by decide +kernel
theorem dM_run_166 : decode bM_run 166 = .ok (.if_icmp .eq 10, 3) := by decide +kernel
theorem dM_run_169 : decode bM_run 169 = .ok (.iload 4, 2) := by decide +kernel
theorem dM_run_171 : decode bM_run 171 = .ok (.bipush 11, 2) := by decide +kernel
theorem dM_run_173 : decode bM_run 173 = .ok (.if_icmp .ne 14, 3) := by decide +kernel
theorem dM_run_176 : decode bM_run 176 = .ok (.aload_n 0, 1) := by decide +kernel
theorem dM_run_177 : decode bM_run 177 = .ok (.iload 4, 2) := by decide +kernel
theorem dM_run_179 : decode bM_run 179 = .ok (.iload 5, 2) := by decide +kernel
theorem dM_run_181 : decode bM_run 181 = .ok (.invokevirtual 232, 3) := by decide +kernel
theorem dM_run_184 : decode bM_run 184 = .ok (.goto 9, 3) := by decide +kernel
theorem dM_run_187 : decode bM_run 187 = .ok (.aload_n 0, 1) := by decide +kernel
theorem dM_run_188 : decode bM_run 188 = .ok (.iload 4, 2) := by decide +kernel
theorem dM_run_190 : decode bM_run 190 = .ok (.invokevirtual 235, 3) := by decide +kernel
theorem dM_run_193 : decode bM_run 193 = .ok (.iload 6, 2) := by decide +kernel
theorem dM_run_195 : decode bM_run 195 = .ok (.istore_n 3, 1) := by decide +kernel
theorem dM_run_196 : decode bM_run 196 = .ok (.goto (-179), 3) := by decide +kernel
theorem dM_run_199 : decode bM_run 199 = .ok (.aload_n 0, 1) := by decide +kernel
theorem dM_run_200 : decode bM_run 200 = .ok (.getfield 57, 3) := by decide +kernel
theorem dM_run_203 : decode bM_run 203 = .ok (.iconst 0, 1) := by decide +kernel
theorem dM_run_204 : decode bM_run 204 = .ok (.iaload, 1) := by decide +kernel
theorem dM_run_205 : decode bM_run 205 = .ok (.iconst 1, 1) := by decide +kernel
theorem dM_run_206 : decode bM_run 206 = .ok (.if_icmp .ne 7, 3) := by decide +kernel
theorem dM_run_209 : decode bM_run 209 = .ok (.iconst 1, 1) := by decide +kernel
theorem dM_run_210 : decode bM_run 210 = .ok (.goto 4, 3) := by decide +kernel
theorem dM_run_213 : decode bM_run 213 = .ok (.iconst 0, 1) := by decide +kernel
theorem dM_run_214 : decode bM_run 214 = .ok (.ireturn, 1) := by decide +kernel
theorem dM_pop_0 : decode bM_pop 0 = .ok (.aload_n 0, 1) := by decide +kernel
theorem dM_pop_1 : decode bM_pop 1 = .ok (.dup, 1) := by decide +kernel
theorem dM_pop_2 : decode bM_pop 2 = .ok (.getfield 206, 3) := by decide +kernel
theorem dM_pop_5 : decode bM_pop 5 = .ok (.iconst 1, 1) := by decide +kernel
theorem dM_pop_6 : decode bM_pop 6 = .ok (.isub, 1) := by decide +kernel
theorem dM_pop_7 : decode bM_pop 7 = .ok (.putfield 206, 3) := by decide +kernel
theorem dM_pop_10 : decode bM_pop 10 = .ok (.aload_n 0, 1) := by decide +kernel
theorem dM_pop_11 : decode bM_pop 11 = .ok (.getfield 57, 3) := by decide +kernel
theorem dM_pop_14 : decode bM_pop 14 = .ok (.aload_n 0, 1) := by decide +kernel
theorem dM_pop_15 : decode bM_pop 15 = .ok (.getfield 206, 3) := by decide +kernel
theorem dM_pop_18 : decode bM_pop 18 = .ok (.iaload, 1) := by decide +kernel
theorem dM_pop_19 : decode bM_pop 19 = .ok (.ireturn, 1) := by decide +kernel
theorem dM_ends_0 : decode bM_ends 0 = .ok (.aload_n 0, 1) := by decide +kernel
theorem dM_ends_1 : decode bM_ends 1 = .ok (.dup, 1) := by decide +kernel
theorem dM_ends_2 : decode bM_ends 2 = .ok (.getfield 222, 3) := by decide +kernel
theorem dM_ends_5 : decode bM_ends 5 = .ok (.iload_n 3, 1) := by decide +kernel
theorem dM_ends_6 : decode bM_ends 6 = .ok (.ifCond .eq 7, 3) := by decide +kernel
theorem dM_ends_9 : decode bM_ends 9 = .ok (.iload_n 2, 1) := by decide +kernel
theorem dM_ends_10 : decode bM_ends 10 = .ok (.goto 4, 3) := by decide +kernel
theorem dM_ends_13 : decode bM_ends 13 = .ok (.iconst 0, 1) := by decide +kernel
theorem dM_ends_14 : decode bM_ends 14 = .ok (.iadd, 1) := by decide +kernel
theorem dM_ends_15 : decode bM_ends 15 = .ok (.putfield 222, 3) := by decide +kernel
theorem dM_ends_18 : decode bM_ends 18 = .ok (.iload_n 3, 1) := by decide +kernel
theorem dM_ends_19 : decode bM_ends 19 = .ok (.ifCond .ne 25, 3) := by decide +kernel
theorem dM_ends_22 : decode bM_ends 22 = .ok (.iload_n 2, 1) := by decide +kernel
theorem dM_ends_23 : decode bM_ends 23 = .ok (.aload_n 0, 1) := by decide +kernel
theorem dM_ends_24 : decode bM_ends 24 = .ok (.getfield 20, 3) := by decide +kernel
theorem dM_ends_27 : decode bM_ends 27 = .ok (.iload_n 1, 1) := by decide +kernel
theorem dM_ends_28 : decode bM_ends 28 = .ok (.baload, 1) := by decide +kernel
theorem dM_ends_29 : decode bM_ends 29 = .ok (.ifCond .eq 7, 3) := by decide +kernel
theorem dM_ends_32 : decode bM_ends 32 = .ok (.iconst 0, 1) := by decide +kernel
theorem dM_ends_33 : decode bM_ends 33 = .ok (.goto 4, 3) := by decide +kernel
theorem dM_ends_36 : decode bM_ends 36 = .ok (.iconst 1, 1) := by decide +kernel
theorem dM_ends_37 : decode bM_ends 37 = .ok (.if_icmp .ne 7, 3) := by decide +kernel
theorem dM_ends_40 : decode bM_ends 40 = .ok (.iconst 1, 1) := by decide +kernel
theorem dM_ends_41 : decode bM_ends 41 = .ok (.goto 4, 3) := by decide +kernel
theorem dM_ends_44 : decode bM_ends 44 = .ok (.iconst 0, 1) := by decide +kernel
theorem dM_ends_45 : decode bM_ends 45 = .ok (.istore 4, 2) := by decide +kernel
theorem dM_ends_47 : decode bM_ends 47 = .ok (.iload 4, 2) := by decide +kernel
theorem dM_ends_49 : decode bM_ends 49 = .ok (.ifCond .ne 19, 3) := by decide +kernel
theorem dM_ends_52 : decode bM_ends 52 = .ok (.aload_n 0, 1) := by decide +kernel
theorem dM_ends_53 : decode bM_ends 53 = .ok (.getfield 51, 3) := by decide +kernel
theorem dM_ends_56 : decode bM_ends 56 = .ok (.iload_n 1, 1) := by decide +kernel
theorem dM_ends_57 : decode bM_ends 57 = .ok (.iaload, 1) := by decide +kernel
theorem dM_ends_58 : decode bM_ends 58 = .ok (.aload_n 0, 1) := by decide +kernel
theorem dM_ends_59 : decode bM_ends 59 = .ok (.iload_n 1, 1) := by decide +kernel
theorem dM_ends_60 : decode bM_ends 60 = .ok (.invokevirtual 225, 3) := by decide +kernel
theorem dM_ends_63 : decode bM_ends 63 = .ok (.if_icmp .ge 5, 3) := by decide +kernel
theorem dM_ends_66 : decode bM_ends 66 = .ok (.iconst 0, 1) := by decide +kernel
theorem dM_ends_67 : decode bM_ends 67 = .ok (.ireturn, 1) := by decide +kernel
theorem dM_ends_68 : decode bM_ends 68 = .ok (.aload_n 0, 1) := by decide +kernel
theorem dM_ends_69 : decode bM_ends 69 = .ok (.iload 4, 2) := by decide +kernel
theorem dM_ends_71 : decode bM_ends 71 = .ok (.ifCond .eq 7, 3) := by decide +kernel
theorem dM_ends_74 : decode bM_ends 74 = .ok (.iload_n 2, 1) := by decide +kernel
theorem dM_ends_75 : decode bM_ends 75 = .ok (.goto 17, 3) := by decide +kernel
theorem dM_ends_78 : decode bM_ends 78 = .ok (.aload_n 0, 1) := by decide +kernel
theorem dM_ends_79 : decode bM_ends 79 = .ok (.getfield 20, 3) := by decide +kernel
theorem dM_ends_82 : decode bM_ends 82 = .ok (.iload_n 1, 1) := by decide +kernel
theorem dM_ends_83 : decode bM_ends 83 = .ok (.baload, 1) := by decide +kernel
theorem dM_ends_84 : decode bM_ends 84 = .ok (.ifCond .eq 7, 3) := by decide +kernel
theorem dM_ends_87 : decode bM_ends 87 = .ok (.iconst 1, 1) := by decide +kernel
theorem dM_ends_88 : decode bM_ends 88 = .ok (.goto 4, 3) := by decide +kernel
theorem dM_ends_91 : decode bM_ends 91 = .ok (.iconst 0, 1) := by decide +kernel
theorem dM_ends_92 : decode bM_ends 92 = .ok (.invokevirtual 219, 3) := by decide +kernel
theorem dM_ends_95 : decode bM_ends 95 = .ok (.iconst 1, 1) := by decide +kernel
theorem dM_ends_96 : decode bM_ends 96 = .ok (.ireturn, 1) := by decide +kernel
theorem dM_lastOf_0 : decode bM_lastOf 0 = .ok (.aload_n 0, 1) := by decide +kernel
theorem dM_lastOf_1 : decode bM_lastOf 1 = .ok (.getfield 24, 3) := by decide +kernel
theorem dM_lastOf_4 : decode bM_lastOf 4 = .ok (.iload_n 1, 1) := by decide +kernel
theorem dM_lastOf_5 : decode bM_lastOf 5 = .ok (.baload, 1) := by decide +kernel
theorem dM_lastOf_6 : decode bM_lastOf 6 = .ok (.ifCond .eq 14, 3) := by decide +kernel
theorem dM_lastOf_9 : decode bM_lastOf 9 = .ok (.iconst 1, 1) := by decide +kernel
theorem dM_lastOf_10 : decode bM_lastOf 10 = .ok (.aload_n 0, 1) := by decide +kernel
theorem dM_lastOf_11 : decode bM_lastOf 11 = .ok (.getfield 216, 3) := by decide +kernel
theorem dM_lastOf_14 : decode bM_lastOf 14 = .ok (.ishl, 1) := by decide +kernel
theorem dM_lastOf_15 : decode bM_lastOf 15 = .ok (.iconst 1, 1) := by decide +kernel
theorem dM_lastOf_16 : decode bM_lastOf 16 = .ok (.isub, 1) := by decide +kernel
theorem dM_lastOf_17 : decode bM_lastOf 17 = .ok (.goto 5, 3) := by decide +kernel
theorem dM_lastOf_20 : decode bM_lastOf 20 = .ok (.bipush 8, 2) := by decide +kernel
theorem dM_lastOf_22 : decode bM_lastOf 22 = .ok (.ireturn, 1) := by decide +kernel
theorem dM_put_0 : decode bM_put 0 = .ok (.aload_n 0, 1) := by decide +kernel
theorem dM_put_1 : decode bM_put 1 = .ok (.getfield 57, 3) := by decide +kernel
theorem dM_put_4 : decode bM_put 4 = .ok (.aload_n 0, 1) := by decide +kernel
theorem dM_put_5 : decode bM_put 5 = .ok (.getfield 206, 3) := by decide +kernel
theorem dM_put_8 : decode bM_put 8 = .ok (.iload_n 1, 1) := by decide +kernel
theorem dM_put_9 : decode bM_put 9 = .ok (.iastore, 1) := by decide +kernel
theorem dM_put_10 : decode bM_put 10 = .ok (.aload_n 0, 1) := by decide +kernel
theorem dM_put_11 : decode bM_put 11 = .ok (.dup, 1) := by decide +kernel
theorem dM_put_12 : decode bM_put 12 = .ok (.getfield 206, 3) := by decide +kernel
theorem dM_put_15 : decode bM_put 15 = .ok (.iconst 1, 1) := by decide +kernel
theorem dM_put_16 : decode bM_put 16 = .ok (.iadd, 1) := by decide +kernel
theorem dM_put_17 : decode bM_put 17 = .ok (.putfield 206, 3) := by decide +kernel
theorem dM_put_20 : decode bM_put 20 = .ok (.return_, 1) := by decide +kernel
theorem dM_doSum_0 : decode bM_doSum 0 = .ok (.iload_n 1, 1) := by decide +kernel
theorem dM_doSum_1 : decode bM_doSum 1 = .ok (.bipush 18, 2) := by decide +kernel
theorem dM_doSum_3 : decode bM_doSum 3 = .ok (.if_icmp .ne 26, 3) := by decide +kernel
theorem dM_doSum_6 : decode bM_doSum 6 = .ok (.aload_n 0, 1) := by decide +kernel
theorem dM_doSum_7 : decode bM_doSum 7 = .ok (.invokevirtual 209, 3) := by decide +kernel
theorem dM_doSum_10 : decode bM_doSum 10 = .ok (.istore_n 3, 1) := by decide +kernel
theorem dM_doSum_11 : decode bM_doSum 11 = .ok (.aload_n 0, 1) := by decide +kernel
theorem dM_doSum_12 : decode bM_doSum 12 = .ok (.getfield 57, 3) := by decide +kernel
theorem dM_doSum_15 : decode bM_doSum 15 = .ok (.aload_n 0, 1) := by decide +kernel
theorem dM_doSum_16 : decode bM_doSum 16 = .ok (.getfield 206, 3) := by decide +kernel
theorem dM_doSum_19 : decode bM_doSum 19 = .ok (.iconst 1, 1) := by decide +kernel
theorem dM_doSum_20 : decode bM_doSum 20 = .ok (.isub, 1) := by decide +kernel
theorem dM_doSum_21 : decode bM_doSum 21 = .ok (.dup2, 1) := by decide +kernel
theorem dM_doSum_22 : decode bM_doSum 22 = .ok (.iaload, 1) := by decide +kernel
theorem dM_doSum_23 : decode bM_doSum 23 = .ok (.iload_n 3, 1) := by decide +kernel
theorem dM_doSum_24 : decode bM_doSum 24 = .ok (.iadd, 1) := by decide +kernel
theorem dM_doSum_25 : decode bM_doSum 25 = .ok (.iastore, 1) := by decide +kernel
theorem dM_doSum_26 : decode bM_doSum 26 = .ok (.goto 176, 3) := by decide +kernel
theorem dM_doSum_29 : decode bM_doSum 29 = .ok (.iload_n 1, 1) := by decide +kernel
theorem dM_doSum_30 : decode bM_doSum 30 = .ok (.bipush 16, 2) := by decide +kernel
theorem dM_doSum_32 : decode bM_doSum 32 = .ok (.if_icmp .ne 30, 3) := by decide +kernel
theorem dM_doSum_35 : decode bM_doSum 35 = .ok (.aload_n 0, 1) := by decide +kernel
theorem dM_doSum_36 : decode bM_doSum 36 = .ok (.getfield 57, 3) := by decide +kernel
theorem dM_doSum_39 : decode bM_doSum 39 = .ok (.aload_n 0, 1) := by decide +kernel
theorem dM_doSum_40 : decode bM_doSum 40 = .ok (.getfield 206, 3) := by decide +kernel
theorem dM_doSum_43 : decode bM_doSum 43 = .ok (.iconst 1, 1) := by decide +kernel
theorem dM_doSum_44 : decode bM_doSum 44 = .ok (.isub, 1) := by decide +kernel
theorem dM_doSum_45 : decode bM_doSum 45 = .ok (.iload_n 2, 1) := by decide +kernel
theorem dM_doSum_46 : decode bM_doSum 46 = .ok (.aload_n 0, 1) := by decide +kernel
theorem dM_doSum_47 : decode bM_doSum 47 = .ok (.getfield 57, 3) := by decide +kernel
theorem dM_doSum_50 : decode bM_doSum 50 = .ok (.aload_n 0, 1) := by decide +kernel
theorem dM_doSum_51 : decode bM_doSum 51 = .ok (.getfield 206, 3) := by decide +kernel
theorem dM_doSum_54 : decode bM_doSum 54 = .ok (.iconst 1, 1) := by decide +kernel
theorem dM_doSum_55 : decode bM_doSum 55 = .ok (.isub, 1) := by decide +kernel
theorem dM_doSum_56 : decode bM_doSum 56 = .ok (.iaload, 1) := by decide +kernel
theorem dM_doSum_57 : decode bM_doSum 57 = .ok (.imul, 1) := by decide +kernel
theorem dM_doSum_58 : decode bM_doSum 58 = .ok (.iastore, 1) := by decide +kernel
theorem dM_doSum_59 : decode bM_doSum 59 = .ok (.goto 143, 3) := by decide +kernel
theorem dM_doSum_62 : decode bM_doSum 62 = .ok (.iload_n 1, 1) := by decide +kernel
theorem dM_doSum_63 : decode bM_doSum 63 = .ok (.bipush 17, 2) := by decide +kernel
theorem dM_doSum_65 : decode bM_doSum 65 = .ok (.if_icmp .ne 29, 3) := by decide +kernel
theorem dM_doSum_68 : decode bM_doSum 68 = .ok (.aload_n 0, 1) := by decide +kernel
theorem dM_doSum_69 : decode bM_doSum 69 = .ok (.getfield 57, 3) := by decide +kernel
theorem dM_doSum_72 : decode bM_doSum 72 = .ok (.aload_n 0, 1) := by decide +kernel
theorem dM_doSum_73 : decode bM_doSum 73 = .ok (.getfield 206, 3) := by decide +kernel
theorem dM_doSum_76 : decode bM_doSum 76 = .ok (.iconst 1, 1) := by decide +kernel
theorem dM_doSum_77 : decode bM_doSum 77 = .ok (.isub, 1) := by decide +kernel
theorem dM_doSum_78 : decode bM_doSum 78 = .ok (.aload_n 0, 1) := by decide +kernel
theorem dM_doSum_79 : decode bM_doSum 79 = .ok (.getfield 57, 3) := by decide +kernel
theorem dM_doSum_82 : decode bM_doSum 82 = .ok (.aload_n 0, 1) := by decide +kernel
theorem dM_doSum_83 : decode bM_doSum 83 = .ok (.getfield 206, 3) := by decide +kernel
theorem dM_doSum_86 : decode bM_doSum 86 = .ok (.iconst 1, 1) := by decide +kernel
theorem dM_doSum_87 : decode bM_doSum 87 = .ok (.isub, 1) := by decide +kernel
theorem dM_doSum_88 : decode bM_doSum 88 = .ok (.iaload, 1) := by decide +kernel
theorem dM_doSum_89 : decode bM_doSum 89 = .ok (.ineg, 1) := by decide +kernel
theorem dM_doSum_90 : decode bM_doSum 90 = .ok (.iastore, 1) := by decide +kernel
theorem dM_doSum_91 : decode bM_doSum 91 = .ok (.goto 111, 3) := by decide +kernel
theorem dM_doSum_94 : decode bM_doSum 94 = .ok (.iload_n 1, 1) := by decide +kernel
theorem dM_doSum_95 : decode bM_doSum 95 = .ok (.bipush 11, 2) := by decide +kernel
theorem dM_doSum_97 : decode bM_doSum 97 = .ok (.if_icmp .ne 31, 3) := by decide +kernel
theorem dM_doSum_100 : decode bM_doSum 100 = .ok (.aload_n 0, 1) := by decide +kernel
theorem dM_doSum_101 : decode bM_doSum 101 = .ok (.getfield 57, 3) := by decide +kernel
theorem dM_doSum_104 : decode bM_doSum 104 = .ok (.aload_n 0, 1) := by decide +kernel
theorem dM_doSum_105 : decode bM_doSum 105 = .ok (.getfield 206, 3) := by decide +kernel
theorem dM_doSum_108 : decode bM_doSum 108 = .ok (.iconst 1, 1) := by decide +kernel
theorem dM_doSum_109 : decode bM_doSum 109 = .ok (.isub, 1) := by decide +kernel
theorem dM_doSum_110 : decode bM_doSum 110 = .ok (.aload_n 0, 1) := by decide +kernel
theorem dM_doSum_111 : decode bM_doSum 111 = .ok (.getfield 57, 3) := by decide +kernel
theorem dM_doSum_114 : decode bM_doSum 114 = .ok (.aload_n 0, 1) := by decide +kernel
theorem dM_doSum_115 : decode bM_doSum 115 = .ok (.getfield 206, 3) := by decide +kernel
theorem dM_doSum_118 : decode bM_doSum 118 = .ok (.iconst 1, 1) := by decide +kernel
theorem dM_doSum_119 : decode bM_doSum 119 = .ok (.isub, 1) := by decide +kernel
theorem dM_doSum_120 : decode bM_doSum 120 = .ok (.iaload, 1) := by decide +kernel
theorem dM_doSum_121 : decode bM_doSum 121 = .ok (.invokestatic 212, 3) := by decide +kernel
theorem dM_doSum_124 : decode bM_doSum 124 = .ok (.iastore, 1) := by decide +kernel
theorem dM_doSum_125 : decode bM_doSum 125 = .ok (.goto 77, 3) := by decide +kernel
theorem dM_doSum_128 : decode bM_doSum 128 = .ok (.iload_n 1, 1) := by decide +kernel
theorem dM_doSum_129 : decode bM_doSum 129 = .ok (.bipush 21, 2) := by decide +kernel
theorem dM_doSum_131 : decode bM_doSum 131 = .ok (.if_icmp .ne 38, 3) := by decide +kernel
theorem dM_doSum_134 : decode bM_doSum 134 = .ok (.aload_n 0, 1) := by decide +kernel
theorem dM_doSum_135 : decode bM_doSum 135 = .ok (.getfield 57, 3) := by decide +kernel
theorem dM_doSum_138 : decode bM_doSum 138 = .ok (.aload_n 0, 1) := by decide +kernel
theorem dM_doSum_139 : decode bM_doSum 139 = .ok (.getfield 206, 3) := by decide +kernel
theorem dM_doSum_142 : decode bM_doSum 142 = .ok (.iconst 1, 1) := by decide +kernel
theorem dM_doSum_143 : decode bM_doSum 143 = .ok (.isub, 1) := by decide +kernel
theorem dM_doSum_144 : decode bM_doSum 144 = .ok (.aload_n 0, 1) := by decide +kernel
theorem dM_doSum_145 : decode bM_doSum 145 = .ok (.getfield 57, 3) := by decide +kernel
theorem dM_doSum_148 : decode bM_doSum 148 = .ok (.aload_n 0, 1) := by decide +kernel
theorem dM_doSum_149 : decode bM_doSum 149 = .ok (.getfield 206, 3) := by decide +kernel
theorem dM_doSum_152 : decode bM_doSum 152 = .ok (.iconst 1, 1) := by decide +kernel
theorem dM_doSum_153 : decode bM_doSum 153 = .ok (.isub, 1) := by decide +kernel
theorem dM_doSum_154 : decode bM_doSum 154 = .ok (.iaload, 1) := by decide +kernel
theorem dM_doSum_155 : decode bM_doSum 155 = .ok (.iload_n 2, 1) := by decide +kernel
theorem dM_doSum_156 : decode bM_doSum 156 = .ok (.irem, 1) := by decide +kernel
theorem dM_doSum_157 : decode bM_doSum 157 = .ok (.ifCond .ne 7, 3) := by decide +kernel
theorem dM_doSum_160 : decode bM_doSum 160 = .ok (.iconst 1, 1) := by decide +kernel
theorem dM_doSum_161 : decode bM_doSum 161 = .ok (.goto 4, 3) := by decide +kernel
theorem dM_doSum_164 : decode bM_doSum 164 = .ok (.iconst 0, 1) := by decide +kernel
theorem dM_doSum_165 : decode bM_doSum 165 = .ok (.iastore, 1) := by decide +kernel
theorem dM_doSum_166 : decode bM_doSum 166 = .ok (.goto 36, 3) := by decide +kernel
theorem dM_doSum_169 : decode bM_doSum 169 = .ok (.aload_n 0, 1) := by decide +kernel
theorem dM_doSum_170 : decode bM_doSum 170 = .ok (.iload_n 1, 1) := by decide +kernel
theorem dM_doSum_171 : decode bM_doSum 171 = .ok (.bipush 13, 2) := by decide +kernel
theorem dM_doSum_173 : decode bM_doSum 173 = .ok (.if_icmp .ne 7, 3) := by decide +kernel
theorem dM_doSum_176 : decode bM_doSum 176 = .ok (.iload_n 2, 1) := by decide +kernel
theorem dM_doSum_177 : decode bM_doSum 177 = .ok (.goto 22, 3) := by decide +kernel
theorem dM_doSum_180 : decode bM_doSum 180 = .ok (.iload_n 1, 1) := by decide +kernel
theorem dM_doSum_181 : decode bM_doSum 181 = .ok (.bipush 15, 2) := by decide +kernel
theorem dM_doSum_183 : decode bM_doSum 183 = .ok (.if_icmp .ne 10, 3) := by decide +kernel
theorem dM_doSum_186 : decode bM_doSum 186 = .ok (.aload_n 0, 1) := by decide +kernel
theorem dM_doSum_187 : decode bM_doSum 187 = .ok (.getfield 216, 3) := by decide +kernel
theorem dM_doSum_190 : decode bM_doSum 190 = .ok (.goto 9, 3) := by decide +kernel
theorem dM_doSum_193 : decode bM_doSum 193 = .ok (.aload_n 0, 1) := by decide +kernel
theorem dM_doSum_194 : decode bM_doSum 194 = .ok (.getfield 51, 3) := by decide +kernel
theorem dM_doSum_197 : decode bM_doSum 197 = .ok (.iload_n 2, 1) := by decide +kernel
theorem dM_doSum_198 : decode bM_doSum 198 = .ok (.iaload, 1) := by decide +kernel
theorem dM_doSum_199 : decode bM_doSum 199 = .ok (.invokevirtual 219, 3) := by decide +kernel
theorem dM_doSum_202 : decode bM_doSum 202 = .ok (.return_, 1) := by decide +kernel
theorem dM_count_0 : decode bM_count 0 = .ok (.iconst 0, 1) := by decide +kernel
theorem dM_count_1 : decode bM_count 1 = .ok (.istore_n 1, 1) := by decide +kernel
theorem dM_count_2 : decode bM_count 2 = .ok (.iconst 0, 1) := by decide +kernel
theorem dM_count_3 : decode bM_count 3 = .ok (.istore_n 2, 1) := by decide +kernel
theorem dM_count_4 : decode bM_count 4 = .ok (.iload_n 2, 1) := by decide +kernel
theorem dM_count_5 : decode bM_count 5 = .ok (.iconst 4, 1) := by decide +kernel
theorem dM_count_6 : decode bM_count 6 = .ok (.if_icmp .ge 17, 3) := by decide +kernel
theorem dM_count_9 : decode bM_count 9 = .ok (.iload_n 1, 1) := by decide +kernel
theorem dM_count_10 : decode bM_count 10 = .ok (.iload_n 0, 1) := by decide +kernel
theorem dM_count_11 : decode bM_count 11 = .ok (.iload_n 2, 1) := by decide +kernel
theorem dM_count_12 : decode bM_count 12 = .ok (.ishr, 1) := by decide +kernel
theorem dM_count_13 : decode bM_count 13 = .ok (.iconst 1, 1) := by decide +kernel
theorem dM_count_14 : decode bM_count 14 = .ok (.iand, 1) := by decide +kernel
theorem dM_count_15 : decode bM_count 15 = .ok (.iadd, 1) := by decide +kernel
theorem dM_count_16 : decode bM_count 16 = .ok (.istore_n 1, 1) := by decide +kernel
theorem dM_count_17 : decode bM_count 17 = .ok (.iinc 2 1, 3) := by decide +kernel
theorem dM_count_20 : decode bM_count 20 = .ok (.goto (-16), 3) := by decide +kernel
theorem dM_count_23 : decode bM_count 23 = .ok (.iload_n 1, 1) := by decide +kernel
theorem dM_count_24 : decode bM_count 24 = .ok (.ireturn, 1) := by decide +kernel
theorem dM_doOther_0 : decode bM_doOther 0 = .ok (.iconst 1, 1) := by decide +kernel
theorem dM_doOther_1 : decode bM_doOther 1 = .ok (.aload_n 0, 1) := by decide +kernel
theorem dM_doOther_2 : decode bM_doOther 2 = .ok (.getfield 216, 3) := by decide +kernel
theorem dM_doOther_5 : decode bM_doOther 5 = .ok (.ishl, 1) := by decide +kernel
theorem dM_doOther_6 : decode bM_doOther 6 = .ok (.iconst 1, 1) := by decide +kernel
theorem dM_doOther_7 : decode bM_doOther 7 = .ok (.isub, 1) := by decide +kernel
theorem dM_doOther_8 : decode bM_doOther 8 = .ok (.istore_n 2, 1) := by decide +kernel
theorem dM_doOther_9 : decode bM_doOther 9 = .ok (.iload_n 1, 1) := by decide +kernel
theorem dM_doOther_10 : decode bM_doOther 10 = .ok (.bipush 23, 2) := by decide +kernel
theorem dM_doOther_12 : decode bM_doOther 12 = .ok (.if_icmp .eq 9, 3) := by decide +kernel
theorem dM_doOther_15 : decode bM_doOther 15 = .ok (.iload_n 1, 1) := by decide +kernel
theorem dM_doOther_16 : decode bM_doOther 16 = .ok (.bipush 24, 2) := by decide +kernel
theorem dM_doOther_18 : decode bM_doOther 18 = .ok (.if_icmp .ne 21, 3) := by decide +kernel
theorem dM_doOther_21 : decode bM_doOther 21 = .ok (.aload_n 0, 1) := by decide +kernel
theorem dM_doOther_22 : decode bM_doOther 22 = .ok (.iload_n 1, 1) := by decide +kernel
theorem dM_doOther_23 : decode bM_doOther 23 = .ok (.bipush 23, 2) := by decide +kernel
theorem dM_doOther_25 : decode bM_doOther 25 = .ok (.if_icmp .ne 7, 3) := by decide +kernel
theorem dM_doOther_28 : decode bM_doOther 28 = .ok (.iconst 0, 1) := by decide +kernel
theorem dM_doOther_29 : decode bM_doOther 29 = .ok (.goto 4, 3) := by decide +kernel
theorem dM_doOther_32 : decode bM_doOther 32 = .ok (.iload_n 2, 1) := by decide +kernel
theorem dM_doOther_33 : decode bM_doOther 33 = .ok (.invokevirtual 219, 3) := by decide +kernel
theorem dM_doOther_36 : decode bM_doOther 36 = .ok (.goto 189, 3) := by decide +kernel
theorem dM_doOther_39 : decode bM_doOther 39 = .ok (.iload_n 1, 1) := by decide +kernel
theorem dM_doOther_40 : decode bM_doOther 40 = .ok (.bipush 9, 2) := by decide +kernel
theorem dM_doOther_42 : decode bM_doOther 42 = .ok (.if_icmp .ne 32, 3) := by decide +kernel
theorem dM_doOther_45 : decode bM_doOther 45 = .ok (.aload_n 0, 1) := by decide +kernel
theorem dM_doOther_46 : decode bM_doOther 46 = .ok (.getfield 57, 3) := by decide +kernel
theorem dM_doOther_49 : decode bM_doOther 49 = .ok (.aload_n 0, 1) := by decide +kernel
theorem dM_doOther_50 : decode bM_doOther 50 = .ok (.getfield 206, 3) := by decide +kernel
theorem dM_doOther_53 : decode bM_doOther 53 = .ok (.iconst 1, 1) := by decide +kernel
theorem dM_doOther_54 : decode bM_doOther 54 = .ok (.isub, 1) := by decide +kernel
theorem dM_doOther_55 : decode bM_doOther 55 = .ok (.iload_n 2, 1) := by decide +kernel
theorem dM_doOther_56 : decode bM_doOther 56 = .ok (.aload_n 0, 1) := by decide +kernel
theorem dM_doOther_57 : decode bM_doOther 57 = .ok (.getfield 57, 3) := by decide +kernel
theorem dM_doOther_60 : decode bM_doOther 60 = .ok (.aload_n 0, 1) := by decide +kernel
theorem dM_doOther_61 : decode bM_doOther 61 = .ok (.getfield 206, 3) := by decide +kernel
theorem dM_doOther_64 : decode bM_doOther 64 = .ok (.iconst 1, 1) := by decide +kernel
theorem dM_doOther_65 : decode bM_doOther 65 = .ok (.isub, 1) := by decide +kernel
theorem dM_doOther_66 : decode bM_doOther 66 = .ok (.iaload, 1) := by decide +kernel
theorem dM_doOther_67 : decode bM_doOther 67 = .ok (.iconst (-1), 1) := by decide +kernel
theorem dM_doOther_68 : decode bM_doOther 68 = .ok (.ixor, 1) := by decide +kernel
theorem dM_doOther_69 : decode bM_doOther 69 = .ok (.iand, 1) := by decide +kernel
theorem dM_doOther_70 : decode bM_doOther 70 = .ok (.iastore, 1) := by decide +kernel
theorem dM_doOther_71 : decode bM_doOther 71 = .ok (.goto 154, 3) := by decide +kernel
theorem dM_doOther_74 : decode bM_doOther 74 = .ok (.iload_n 1, 1) := by decide +kernel
theorem dM_doOther_75 : decode bM_doOther 75 = .ok (.iconst 3, 1) := by decide +kernel
theorem dM_doOther_76 : decode bM_doOther 76 = .ok (.if_icmp .ne 30, 3) := by decide +kernel
theorem dM_doOther_79 : decode bM_doOther 79 = .ok (.aload_n 0, 1) := by decide +kernel
theorem dM_doOther_80 : decode bM_doOther 80 = .ok (.getfield 57, 3) := by decide +kernel
theorem dM_doOther_83 : decode bM_doOther 83 = .ok (.aload_n 0, 1) := by decide +kernel
theorem dM_doOther_84 : decode bM_doOther 84 = .ok (.getfield 206, 3) := by decide +kernel
theorem dM_doOther_87 : decode bM_doOther 87 = .ok (.iconst 1, 1) := by decide +kernel
theorem dM_doOther_88 : decode bM_doOther 88 = .ok (.isub, 1) := by decide +kernel
theorem dM_doOther_89 : decode bM_doOther 89 = .ok (.iconst 1, 1) := by decide +kernel
theorem dM_doOther_90 : decode bM_doOther 90 = .ok (.aload_n 0, 1) := by decide +kernel
theorem dM_doOther_91 : decode bM_doOther 91 = .ok (.getfield 57, 3) := by decide +kernel
theorem dM_doOther_94 : decode bM_doOther 94 = .ok (.aload_n 0, 1) := by decide +kernel
theorem dM_doOther_95 : decode bM_doOther 95 = .ok (.getfield 206, 3) := by decide +kernel
theorem dM_doOther_98 : decode bM_doOther 98 = .ok (.iconst 1, 1) := by decide +kernel
theorem dM_doOther_99 : decode bM_doOther 99 = .ok (.isub, 1) := by decide +kernel
theorem dM_doOther_100 : decode bM_doOther 100 = .ok (.iaload, 1) := by decide +kernel
theorem dM_doOther_101 : decode bM_doOther 101 = .ok (.isub, 1) := by decide +kernel
theorem dM_doOther_102 : decode bM_doOther 102 = .ok (.iastore, 1) := by decide +kernel
theorem dM_doOther_103 : decode bM_doOther 103 = .ok (.goto 122, 3) := by decide +kernel
theorem dM_doOther_106 : decode bM_doOther 106 = .ok (.aload_n 0, 1) := by decide +kernel
theorem dM_doOther_107 : decode bM_doOther 107 = .ok (.invokevirtual 209, 3) := by decide +kernel
theorem dM_doOther_110 : decode bM_doOther 110 = .ok (.istore_n 3, 1) := by decide +kernel
theorem dM_doOther_111 : decode bM_doOther 111 = .ok (.aload_n 0, 1) := by decide +kernel
theorem dM_doOther_112 : decode bM_doOther 112 = .ok (.getfield 57, 3) := by decide +kernel
theorem dM_doOther_115 : decode bM_doOther 115 = .ok (.aload_n 0, 1) := by decide +kernel
theorem dM_doOther_116 : decode bM_doOther 116 = .ok (.getfield 206, 3) := by decide +kernel
theorem dM_doOther_119 : decode bM_doOther 119 = .ok (.iconst 1, 1) := by decide +kernel
theorem dM_doOther_120 : decode bM_doOther 120 = .ok (.isub, 1) := by decide +kernel
theorem dM_doOther_121 : decode bM_doOther 121 = .ok (.iaload, 1) := by decide +kernel
theorem dM_doOther_122 : decode bM_doOther 122 = .ok (.istore 4, 2) := by decide +kernel
theorem dM_doOther_124 : decode bM_doOther 124 = .ok (.aload_n 0, 1) := by decide +kernel
theorem dM_doOther_125 : decode bM_doOther 125 = .ok (.getfield 57, 3) := by decide +kernel
theorem dM_doOther_128 : decode bM_doOther 128 = .ok (.aload_n 0, 1) := by decide +kernel
theorem dM_doOther_129 : decode bM_doOther 129 = .ok (.getfield 206, 3) := by decide +kernel
theorem dM_doOther_132 : decode bM_doOther 132 = .ok (.iconst 1, 1) := by decide +kernel
theorem dM_doOther_133 : decode bM_doOther 133 = .ok (.isub, 1) := by decide +kernel
theorem dM_doOther_134 : decode bM_doOther 134 = .ok (.iload_n 1, 1) := by decide +kernel
theorem dM_doOther_135 : decode bM_doOther 135 = .ok (.bipush 7, 2) := by decide +kernel
theorem dM_doOther_137 : decode bM_doOther 137 = .ok (.if_icmp .eq 8, 3) := by decide +kernel
theorem dM_doOther_140 : decode bM_doOther 140 = .ok (.iload_n 1, 1) := by decide +kernel
theorem dM_doOther_141 : decode bM_doOther 141 = .ok (.iconst 1, 1) := by decide +kernel
theorem dM_doOther_142 : decode bM_doOther 142 = .ok (.if_icmp .ne 10, 3) := by decide +kernel
theorem dM_doOther_145 : decode bM_doOther 145 = .ok (.iload 4, 2) := by decide +kernel
theorem dM_doOther_147 : decode bM_doOther 147 = .ok (.iload_n 3, 1) := by decide +kernel
theorem dM_doOther_148 : decode bM_doOther 148 = .ok (.ior, 1) := by decide +kernel
theorem dM_doOther_149 : decode bM_doOther 149 = .ok (.goto 75, 3) := by decide +kernel
theorem dM_doOther_152 : decode bM_doOther 152 = .ok (.iload_n 1, 1) := by decide +kernel
theorem dM_doOther_153 : decode bM_doOther 153 = .ok (.bipush 8, 2) := by decide +kernel
theorem dM_doOther_155 : decode bM_doOther 155 = .ok (.if_icmp .eq 8, 3) := by decide +kernel
theorem dM_doOther_158 : decode bM_doOther 158 = .ok (.iload_n 1, 1) := by decide +kernel
theorem dM_doOther_159 : decode bM_doOther 159 = .ok (.iconst 2, 1) := by decide +kernel
theorem dM_doOther_160 : decode bM_doOther 160 = .ok (.if_icmp .ne 10, 3) := by decide +kernel
theorem dM_doOther_163 : decode bM_doOther 163 = .ok (.iload 4, 2) := by decide +kernel
theorem dM_doOther_165 : decode bM_doOther 165 = .ok (.iload_n 3, 1) := by decide +kernel
theorem dM_doOther_166 : decode bM_doOther 166 = .ok (.iand, 1) := by decide +kernel
theorem dM_doOther_167 : decode bM_doOther 167 = .ok (.goto 57, 3) := by decide +kernel
theorem dM_doOther_170 : decode bM_doOther 170 = .ok (.iload_n 1, 1) := by decide +kernel
theorem dM_doOther_171 : decode bM_doOther 171 = .ok (.bipush 20, 2) := by decide +kernel
theorem dM_doOther_173 : decode bM_doOther 173 = .ok (.if_icmp .ne 17, 3) := by decide +kernel
theorem dM_doOther_176 : decode bM_doOther 176 = .ok (.iload 4, 2) := by decide +kernel
theorem dM_doOther_178 : decode bM_doOther 178 = .ok (.iload_n 3, 1) := by decide +kernel
theorem dM_doOther_179 : decode bM_doOther 179 = .ok (.if_icmp .ne 7, 3) := by decide +kernel
theorem dM_doOther_182 : decode bM_doOther 182 = .ok (.iconst 1, 1) := by decide +kernel
theorem dM_doOther_183 : decode bM_doOther 183 = .ok (.goto 41, 3) := by decide +kernel
theorem dM_doOther_186 : decode bM_doOther 186 = .ok (.iconst 0, 1) := by decide +kernel
theorem dM_doOther_187 : decode bM_doOther 187 = .ok (.goto 37, 3) := by decide +kernel
theorem dM_doOther_190 : decode bM_doOther 190 = .ok (.iload_n 1, 1) := by decide +kernel
theorem dM_doOther_191 : decode bM_doOther 191 = .ok (.bipush 19, 2) := by decide +kernel
theorem dM_doOther_193 : decode bM_doOther 193 = .ok (.if_icmp .ne 17, 3) := by decide +kernel
theorem dM_doOther_196 : decode bM_doOther 196 = .ok (.iload 4, 2) := by decide +kernel
theorem dM_doOther_198 : decode bM_doOther 198 = .ok (.iload_n 3, 1) := by decide +kernel
theorem dM_doOther_199 : decode bM_doOther 199 = .ok (.if_icmp .ge 7, 3) := by decide +kernel
theorem dM_doOther_202 : decode bM_doOther 202 = .ok (.iconst 1, 1) := by decide +kernel
theorem dM_doOther_203 : decode bM_doOther 203 = .ok (.goto 21, 3) := by decide +kernel
theorem dM_doOther_206 : decode bM_doOther 206 = .ok (.iconst 0, 1) := by decide +kernel
theorem dM_doOther_207 : decode bM_doOther 207 = .ok (.goto 17, 3) := by decide +kernel
theorem dM_doOther_210 : decode bM_doOther 210 = .ok (.iload 4, 2) := by decide +kernel
theorem dM_doOther_212 : decode bM_doOther 212 = .ok (.iload_n 3, 1) := by decide +kernel
theorem dM_doOther_213 : decode bM_doOther 213 = .ok (.iconst (-1), 1) := by decide +kernel
theorem dM_doOther_214 : decode bM_doOther 214 = .ok (.ixor, 1) := by decide +kernel
theorem dM_doOther_215 : decode bM_doOther 215 = .ok (.iand, 1) := by decide +kernel
theorem dM_doOther_216 : decode bM_doOther 216 = .ok (.ifCond .ne 7, 3) := by decide +kernel
theorem dM_doOther_219 : decode bM_doOther 219 = .ok (.iconst 1, 1) := by decide +kernel
theorem dM_doOther_220 : decode bM_doOther 220 = .ok (.goto 4, 3) := by decide +kernel
theorem dM_doOther_223 : decode bM_doOther 223 = .ok (.iconst 0, 1) := by decide +kernel
theorem dM_doOther_224 : decode bM_doOther 224 = .ok (.iastore, 1) := by decide +kernel
theorem dM_doOther_225 : decode bM_doOther 225 = .ok (.return_, 1) := by decide +kernel
theorem dM_fails_0 : decode bM_fails 0 = .ok (.aload_n 0, 1) := by decide +kernel
theorem dM_fails_1 : decode bM_fails 1 = .ok (.aload_n 0, 1) := by decide +kernel
theorem dM_fails_2 : decode bM_fails 2 = .ok (.getfield 194, 3) := by decide +kernel
theorem dM_fails_5 : decode bM_fails 5 = .ok (.ifCond .eq 7, 3) := by decide +kernel
theorem dM_fails_8 : decode bM_fails 8 = .ok (.iconst 0, 1) := by decide +kernel
theorem dM_fails_9 : decode bM_fails 9 = .ok (.goto 4, 3) := by decide +kernel
theorem dM_fails_12 : decode bM_fails 12 = .ok (.iconst 1, 1) := by decide +kernel
theorem dM_fails_13 : decode bM_fails 13 = .ok (.putfield 60, 3) := by decide +kernel
theorem dM_fails_16 : decode bM_fails 16 = .ok (.iconst (-1), 1) := by decide +kernel
theorem dM_fails_17 : decode bM_fails 17 = .ok (.istore_n 1, 1) := by decide +kernel
theorem dM_fails_18 : decode bM_fails 18 = .ok (.iconst 4, 1) := by decide +kernel
theorem dM_fails_19 : decode bM_fails 19 = .ok (.istore_n 2, 1) := by decide +kernel
theorem dM_fails_20 : decode bM_fails 20 = .ok (.iload_n 2, 1) := by decide +kernel
theorem dM_fails_21 : decode bM_fails 21 = .ok (.ifCond .lt 31, 3) := by decide +kernel
theorem dM_fails_24 : decode bM_fails 24 = .ok (.aload_n 0, 1) := by decide +kernel
theorem dM_fails_25 : decode bM_fails 25 = .ok (.getfield 60, 3) := by decide +kernel
theorem dM_fails_28 : decode bM_fails 28 = .ok (.ifCond .ne 24, 3) := by decide +kernel
theorem dM_fails_31 : decode bM_fails 31 = .ok (.aload_n 0, 1) := by decide +kernel
theorem dM_fails_32 : decode bM_fails 32 = .ok (.iload_n 2, 1) := by decide +kernel
theorem dM_fails_33 : decode bM_fails 33 = .ok (.iconst 0, 1) := by decide +kernel
theorem dM_fails_34 : decode bM_fails 34 = .ok (.invokevirtual 241, 3) := by decide +kernel
theorem dM_fails_37 : decode bM_fails 37 = .ok (.ifCond .eq 7, 3) := by decide +kernel
theorem dM_fails_40 : decode bM_fails 40 = .ok (.iload_n 1, 1) := by decide +kernel
theorem dM_fails_41 : decode bM_fails 41 = .ok (.goto 4, 3) := by decide +kernel
theorem dM_fails_44 : decode bM_fails 44 = .ok (.iload_n 2, 1) := by decide +kernel
theorem dM_fails_45 : decode bM_fails 45 = .ok (.istore_n 1, 1) := by decide +kernel
theorem dM_fails_46 : decode bM_fails 46 = .ok (.iinc 2 (-1), 3) := by decide +kernel
theorem dM_fails_49 : decode bM_fails 49 = .ok (.goto (-29), 3) := by decide +kernel
theorem dM_fails_52 : decode bM_fails 52 = .ok (.aload_n 0, 1) := by decide +kernel
theorem dM_fails_53 : decode bM_fails 53 = .ok (.getfield 60, 3) := by decide +kernel
theorem dM_fails_56 : decode bM_fails 56 = .ok (.ifCond .ne 7, 3) := by decide +kernel
theorem dM_fails_59 : decode bM_fails 59 = .ok (.iload_n 1, 1) := by decide +kernel
theorem dM_fails_60 : decode bM_fails 60 = .ok (.goto 4, 3) := by decide +kernel
theorem dM_fails_63 : decode bM_fails 63 = .ok (.iconst 0, 1) := by decide +kernel
theorem dM_fails_64 : decode bM_fails 64 = .ok (.ireturn, 1) := by decide +kernel
theorem dM_ways_0 : decode bM_ways 0 = .ok (.aload_n 0, 1) := by decide +kernel
theorem dM_ways_1 : decode bM_ways 1 = .ok (.aload_n 0, 1) := by decide +kernel
theorem dM_ways_2 : decode bM_ways 2 = .ok (.getfield 194, 3) := by decide +kernel
theorem dM_ways_5 : decode bM_ways 5 = .ok (.ifCond .ne 7, 3) := by decide +kernel
theorem dM_ways_8 : decode bM_ways 8 = .ok (.iconst 1, 1) := by decide +kernel
theorem dM_ways_9 : decode bM_ways 9 = .ok (.goto 15, 3) := by decide +kernel
theorem dM_ways_12 : decode bM_ways 12 = .ok (.iload_n 1, 1) := by decide +kernel
theorem dM_ways_13 : decode bM_ways 13 = .ok (.invokestatic 238, 3) := by decide +kernel
theorem dM_ways_16 : decode bM_ways 16 = .ok (.ifCond .ne 7, 3) := by decide +kernel
theorem dM_ways_19 : decode bM_ways 19 = .ok (.iconst 2, 1) := by decide +kernel
theorem dM_ways_20 : decode bM_ways 20 = .ok (.goto 4, 3) := by decide +kernel
theorem dM_ways_23 : decode bM_ways 23 = .ok (.iconst 0, 1) := by decide +kernel
theorem dM_ways_24 : decode bM_ways 24 = .ok (.putfield 60, 3) := by decide +kernel
theorem dM_ways_27 : decode bM_ways 27 = .ok (.aload_n 0, 1) := by decide +kernel
theorem dM_ways_28 : decode bM_ways 28 = .ok (.getfield 60, 3) := by decide +kernel
theorem dM_ways_31 : decode bM_ways 31 = .ok (.ifCond .le 5, 3) := by decide +kernel
theorem dM_ways_34 : decode bM_ways 34 = .ok (.iconst 0, 1) := by decide +kernel
theorem dM_ways_35 : decode bM_ways 35 = .ok (.ireturn, 1) := by decide +kernel
theorem dM_ways_36 : decode bM_ways 36 = .ok (.aload_n 0, 1) := by decide +kernel
theorem dM_ways_37 : decode bM_ways 37 = .ok (.invokevirtual 245, 3) := by decide +kernel
theorem dM_ways_40 : decode bM_ways 40 = .ok (.istore_n 2, 1) := by decide +kernel
theorem dM_ways_41 : decode bM_ways 41 = .ok (.aload_n 0, 1) := by decide +kernel
theorem dM_ways_42 : decode bM_ways 42 = .ok (.iload_n 1, 1) := by decide +kernel
theorem dM_ways_43 : decode bM_ways 43 = .ok (.iload_n 2, 1) := by decide +kernel
theorem dM_ways_44 : decode bM_ways 44 = .ok (.invokevirtual 241, 3) := by decide +kernel
theorem dM_ways_47 : decode bM_ways 47 = .ok (.istore_n 3, 1) := by decide +kernel
theorem dM_ways_48 : decode bM_ways 48 = .ok (.iload_n 2, 1) := by decide +kernel
theorem dM_ways_49 : decode bM_ways 49 = .ok (.ifCond .eq 10, 3) := by decide +kernel
theorem dM_ways_52 : decode bM_ways 52 = .ok (.aload_n 0, 1) := by decide +kernel
theorem dM_ways_53 : decode bM_ways 53 = .ok (.getfield 222, 3) := by decide +kernel
theorem dM_ways_56 : decode bM_ways 56 = .ok (.goto 12, 3) := by decide +kernel
theorem dM_ways_59 : decode bM_ways 59 = .ok (.iload_n 3, 1) := by decide +kernel
theorem dM_ways_60 : decode bM_ways 60 = .ok (.ifCond .eq 7, 3) := by decide +kernel
theorem dM_ways_63 : decode bM_ways 63 = .ok (.iconst 1, 1) := by decide +kernel
theorem dM_ways_64 : decode bM_ways 64 = .ok (.goto 4, 3) := by decide +kernel
theorem dM_ways_67 : decode bM_ways 67 = .ok (.iconst 0, 1) := by decide +kernel
theorem dM_ways_68 : decode bM_ways 68 = .ok (.ireturn, 1) := by decide +kernel
theorem dM_isLoop_0 : decode bM_isLoop 0 = .ok (.aload_n 0, 1) := by decide +kernel
theorem dM_isLoop_1 : decode bM_isLoop 1 = .ok (.getfield 203, 3) := by decide +kernel
theorem dM_isLoop_4 : decode bM_isLoop 4 = .ok (.ifCond .eq 36, 3) := by decide +kernel
theorem dM_isLoop_7 : decode bM_isLoop 7 = .ok (.aload_n 0, 1) := by decide +kernel
theorem dM_isLoop_8 : decode bM_isLoop 8 = .ok (.getfield 13, 3) := by decide +kernel
theorem dM_isLoop_11 : decode bM_isLoop 11 = .ok (.aload_n 0, 1) := by decide +kernel
theorem dM_isLoop_12 : decode bM_isLoop 12 = .ok (.getfield 197, 3) := by decide +kernel
theorem dM_isLoop_15 : decode bM_isLoop 15 = .ok (.iconst 1, 1) := by decide +kernel
theorem dM_isLoop_16 : decode bM_isLoop 16 = .ok (.isub, 1) := by decide +kernel
theorem dM_isLoop_17 : decode bM_isLoop 17 = .ok (.iaload, 1) := by decide +kernel
theorem dM_isLoop_18 : decode bM_isLoop 18 = .ok (.iconst 5, 1) := by decide +kernel
theorem dM_isLoop_19 : decode bM_isLoop 19 = .ok (.if_icmp .ne 21, 3) := by decide +kernel
theorem dM_isLoop_22 : decode bM_isLoop 22 = .ok (.aload_n 0, 1) := by decide +kernel
theorem dM_isLoop_23 : decode bM_isLoop 23 = .ok (.getfield 17, 3) := by decide +kernel
theorem dM_isLoop_26 : decode bM_isLoop 26 = .ok (.aload_n 0, 1) := by decide +kernel
theorem dM_isLoop_27 : decode bM_isLoop 27 = .ok (.getfield 197, 3) := by decide +kernel
theorem dM_isLoop_30 : decode bM_isLoop 30 = .ok (.iconst 1, 1) := by decide +kernel
theorem dM_isLoop_31 : decode bM_isLoop 31 = .ok (.isub, 1) := by decide +kernel
theorem dM_isLoop_32 : decode bM_isLoop 32 = .ok (.iaload, 1) := by decide +kernel
theorem dM_isLoop_33 : decode bM_isLoop 33 = .ok (.ifCond .ne 7, 3) := by decide +kernel
theorem dM_isLoop_36 : decode bM_isLoop 36 = .ok (.iconst 1, 1) := by decide +kernel
theorem dM_isLoop_37 : decode bM_isLoop 37 = .ok (.goto 4, 3) := by decide +kernel
theorem dM_isLoop_40 : decode bM_isLoop 40 = .ok (.iconst 0, 1) := by decide +kernel
theorem dM_isLoop_41 : decode bM_isLoop 41 = .ok (.ireturn, 1) := by decide +kernel
section
variable {p : Program} {l : Launch} {e : Env} {R : Room} {s : State} {m : MethodId} {args : Array Value} {below : List Frame} {meth : Method} {c : Code} {G : Gx} {M0 M' : Mem} {r : Option Value ⊕ Nat} {d : Nat} {C : Cx}

def fM_holds_48 (n d : Nat) (C : Cx) (xs0 : Int32) (M : Mem) : Rz := if fits .boolean (.int xs0) = true then (some (.inl (some (.int xs0)), M)) else none
set_option maxRecDepth 100000 in
set_option maxHeartbeats 4000000 in
theorem tM_holds_48 {n : Nat} (F : FX p s m meth c G R M0 d "HeadCountModel" bM_holds 2 (some .boolean)) (hC : CBs l G d C) : ∀ (xs0 : Int32) (M : Mem) (H : Heap) (locs : List Loc) (cells slots : Nat) (ls : Array Slot), fM_holds_48 n d C xs0 M = some (r, M') → RL G M0 M H locs cells slots → lv_has ls 2 [] → W p l e R s m args below meth c H locs cells slots (CQ G below s M0 r M') (F0 m 48 ls [.int xs0]) := by
  obtain ⟨hx, hb, hml, hown, hrt, hlk, hex, hK, hRm⟩ := id F
  intro xs0 M H locs cells slots ls h hR hl
  unfold fM_holds_48 at h
  obtain ⟨c_1, h⟩ := rz_chk h
  cases h
  exact rt_i hx hb hlk hrt (Or.inr (Or.inr rfl)) c_1 hR dM_holds_48
def fM_holds_47 (n d : Nat) (C : Cx) (M : Mem) : Rz := fM_holds_48 n d C 0 M
set_option maxRecDepth 100000 in
set_option maxHeartbeats 4000000 in
theorem tM_holds_47 {n : Nat} (F : FX p s m meth c G R M0 d "HeadCountModel" bM_holds 2 (some .boolean)) (hC : CBs l G d C) : ∀ (M : Mem) (H : Heap) (locs : List Loc) (cells slots : Nat) (ls : Array Slot), fM_holds_47 n d C M = some (r, M') → RL G M0 M H locs cells slots → lv_has ls 2 [] → W p l e R s m args below meth c H locs cells slots (CQ G below s M0 r M') (F0 m 47 ls []) := by
  obtain ⟨hx, hb, hml, hown, hrt, hlk, hex, hK, hRm⟩ := id F
  intro M H locs cells slots ls h hR hl
  unfold fM_holds_47 at h
  refine lv_iconst (v := 0) hx hb dM_holds_47 (by decide) ?_
  exact tM_holds_48 F hC 0 _ _ _ _ _ _ h hR (lv_sub hl [] rfl)
def fM_holds_24 (n d : Nat) (C : Cx) (a0 : Nat) (x1 : Int32) (xs0 : Int32) (as1 : Nat) (M : Mem) : Rz := if mK M as1 = 5 then (rzM (setI M as1 0 xs0) fun M_2 => (if mK M_2 a0 = 5 then (if (mI M_2 a0 0) = 0 then (rzC (C 96 [.ref a0, .int x1, .int 0] M_2) fun v_7 M_8 => (rzI v_7 fun x_11 => (if x_11 = 0 then (fM_holds_47 n d C M_8) else (fM_holds_48 n d C 1 M_8)))) else (fM_holds_47 n d C M_2)) else none)) else none
set_option maxRecDepth 100000 in
set_option maxHeartbeats 4000000 in
theorem tM_holds_24 {n : Nat} (F : FX p s m meth c G R M0 d "HeadCountModel" bM_holds 2 (some .boolean)) (hC : CBs l G d C) : ∀ (a0 : Nat) (x1 : Int32) (xs0 : Int32) (as1 : Nat) (M : Mem) (H : Heap) (locs : List Loc) (cells slots : Nat) (ls : Array Slot), fM_holds_24 n d C a0 x1 xs0 as1 M = some (r, M') → RL G M0 M H locs cells slots → lv_has ls 2 [(0, .ref a0), (1, .int x1)] → W p l e R s m args below meth c H locs cells slots (CQ G below s M0 r M') (F0 m 24 ls [.int xs0, .ref as1]) := by
  obtain ⟨hx, hb, hml, hown, hrt, hlk, hex, hK, hRm⟩ := id F
  intro a0 x1 xs0 as1 M H locs cells slots ls h hR hl
  unfold fM_holds_24 at h
  obtain ⟨c_1, h⟩ := rz_chk h
  obtain ⟨M_2, q_3, h⟩ := rz_m h
  refine rg_putI hx hb hown hK hR hk_M 0 (by decide) kf_M_60 rfl rfl (ty := .int) (by decide +kernel) (Or.inl rfl) rfl c_1 dM_holds_24 (fun H locs hR => ?_)
  rw [← q_3] at hR
  have c_4 : mK M_2 as1 = 5 := by rw [q_3]; exact c_1
  refine lv_aload_n hx hb dM_holds_27 rfl (lv_at hl 0 rfl) ?_
  obtain ⟨c_5, h⟩ := rz_chk h
  refine rg_getI hx hb hown hK hR hk_M 0 (by decide) kf_M_60 rfl c_5 dM_holds_28 ?_
  refine lv_if_ne (tgt := 47) hx hb dM_holds_31 (by decide) (fun c_6 => ?_) (fun c_6 => ?_)
  · replace h := rz_f c_6 h
    exact tM_holds_47 F hC _ _ _ _ _ _ h hR (lv_sub hl [] rfl)
  · replace h := rz_t c_6 h
    refine lv_aload_n hx hb dM_holds_34 rfl (lv_at hl 0 rfl) ?_
    refine lv_iload_n hx hb dM_holds_35 rfl (lv_at hl 1 rfl) ?_
    refine lv_iconst (v := 0) hx hb dM_holds_36 (by decide) ?_
    obtain ⟨q_10, M_8, h_9, h⟩ := rz_c h
    refine rc_V (rest := []) (As := [.int x1, .int 0]) hx hb (hl.1.trans hml.symm) hown hK hR hRm mfM_run kl_M_241 hk_M rfl rfl c_5 (by simp [cat_rf, cat_i, cat_a, cat_l, cat_n]) (hC 96 _ _ _ _ h_9) dM_holds_37 (fun v1 H locs cells slots ev hR => ?_) (fun x1 q1 ce1 H locs cells slots ex hR g1 g2 g3 => ?_)
    · rcases h with ⟨v_7, ev2, h⟩ | ⟨e2, ee2, -⟩
      · cases ev.symm.trans ev2
        replace h := rz_i h
        obtain ⟨x_11, rfl, h⟩ := h
        dsimp only [Option.toList, List.cons_append, List.nil_append]
        refine lv_if_eq (tgt := 47) hx hb dM_holds_40 (by decide) (fun c_12 => ?_) (fun c_12 => ?_)
        · replace h := rz_t c_12 h
          exact tM_holds_47 F hC _ _ _ _ _ _ h hR (lv_sub hl [] rfl)
        · replace h := rz_f c_12 h
          refine lv_iconst (v := 1) hx hb dM_holds_43 (by decide) ?_
          refine lv_goto (tgt := 48) hx hb dM_holds_44 (by decide) ?_
          exact tM_holds_48 F hC 1 _ _ _ _ _ _ h hR (lv_sub hl [] rfl)
      · cases ev.symm.trans ee2
    · rcases h with ⟨v2, ev2, -⟩ | ⟨e2, ee2, h⟩
      · cases ex.symm.trans ev2
      · cases ex.symm.trans ee2
        cases h
        exact rt_x hlk hex hR g1 g2 g3
def fM_holds_0 (n d : Nat) (C : Cx) (a0 : Nat) (x1 : Int32) (M : Mem) : Rz := if mK M a0 = 5 then (if (mI M a0 3) = 0 then (fM_holds_24 n d C a0 x1 1 a0 M) else (rzC (C 95 [.int x1] M) fun v_3 M_4 => (rzI v_3 fun x_7 => (if x_7 = 0 then (fM_holds_24 n d C a0 x1 2 a0 M_4) else (fM_holds_24 n d C a0 x1 0 a0 M_4))))) else none
set_option maxRecDepth 100000 in
set_option maxHeartbeats 4000000 in
theorem tM_holds_0 {n : Nat} (F : FX p s m meth c G R M0 d "HeadCountModel" bM_holds 2 (some .boolean)) (hC : CBs l G d C) : ∀ (a0 : Nat) (x1 : Int32) (M : Mem) (H : Heap) (locs : List Loc) (cells slots : Nat) (ls : Array Slot), fM_holds_0 n d C a0 x1 M = some (r, M') → RL G M0 M H locs cells slots → lv_has ls 2 [(0, .ref a0), (1, .int x1)] → W p l e R s m args below meth c H locs cells slots (CQ G below s M0 r M') (F0 m 0 ls []) := by
  obtain ⟨hx, hb, hml, hown, hrt, hlk, hex, hK, hRm⟩ := id F
  intro a0 x1 M H locs cells slots ls h hR hl
  unfold fM_holds_0 at h
  refine lv_aload_n hx hb dM_holds_0 rfl (lv_at hl 0 rfl) ?_
  refine lv_aload_n hx hb dM_holds_1 rfl (lv_at hl 0 rfl) ?_
  obtain ⟨c_1, h⟩ := rz_chk h
  refine rg_getI hx hb hown hK hR hk_M 3 (by decide) kf_M_194 rfl c_1 dM_holds_2 ?_
  refine lv_if_ne (tgt := 12) hx hb dM_holds_5 (by decide) (fun c_2 => ?_) (fun c_2 => ?_)
  · replace h := rz_f c_2 h
    refine lv_iload_n hx hb dM_holds_12 rfl (lv_at hl 1 rfl) ?_
    obtain ⟨q_6, M_4, h_5, h⟩ := rz_c h
    refine rc_S (rest := [.ref a0]) (As := [.int x1]) hx hb (hl.1.trans hml.symm) hown hK hR hRm mfM_isSize kl_M_238 rfl (by simp [cat_rf, cat_i, cat_a, cat_l, cat_n]) (hC 95 _ _ _ _ h_5) dM_holds_13 (fun v1 H locs cells slots ev hR => ?_) (fun x1 q1 ce1 H locs cells slots ex hR g1 g2 g3 => ?_)
    · rcases h with ⟨v_3, ev2, h⟩ | ⟨e2, ee2, -⟩
      · cases ev.symm.trans ev2
        replace h := rz_i h
        obtain ⟨x_7, rfl, h⟩ := h
        dsimp only [Option.toList, List.cons_append, List.nil_append]
        refine lv_if_ne (tgt := 23) hx hb dM_holds_16 (by decide) (fun c_8 => ?_) (fun c_8 => ?_)
        · replace h := rz_f c_8 h
          refine lv_iconst (v := 0) hx hb dM_holds_23 (by decide) ?_
          exact tM_holds_24 F hC a0 x1 0 a0 _ _ _ _ _ _ h hR (lv_sub hl [0, 1] rfl)
        · replace h := rz_t c_8 h
          refine lv_iconst (v := 2) hx hb dM_holds_19 (by decide) ?_
          refine lv_goto (tgt := 24) hx hb dM_holds_20 (by decide) ?_
          exact tM_holds_24 F hC a0 x1 2 a0 _ _ _ _ _ _ h hR (lv_sub hl [0, 1] rfl)
      · cases ev.symm.trans ee2
    · rcases h with ⟨v2, ev2, -⟩ | ⟨e2, ee2, h⟩
      · cases ex.symm.trans ev2
      · cases ex.symm.trans ee2
        cases h
        exact rt_x hlk hex hR g1 g2 g3
  · replace h := rz_t c_2 h
    refine lv_iconst (v := 1) hx hb dM_holds_8 (by decide) ?_
    refine lv_goto (tgt := 24) hx hb dM_holds_9 (by decide) ?_
    exact tM_holds_24 F hC a0 x1 1 a0 _ _ _ _ _ _ h hR (lv_sub hl [0, 1] rfl)
set_option maxRecDepth 100000 in
set_option maxHeartbeats 4000000 in
theorem sM_holds {l : Launch} {G : Gx} {n d : Nat} {C : Cx} (hC : CBs l G d C) (a0 : Nat) (x1 : Int32) {M M' : Mem} {r : Option Value ⊕ Nat} (h : fM_holds_0 n d C a0 x1 M = some (r, M')) : CB l G (d + 1) yM_holds [.ref a0, .int x1] M r M' := by
  intro p e R s m below meth c hx hn hm hc hlk hK hR hcap hS hU hfr hlo hrc hrs
  obtain ⟨hb, hml, hrt, hex, hown⟩ := fx_of hn hm hc (hK.w mfM_holds.2.2.1 rfl #[])
  have F : FX p s m meth c G R M d "HeadCountModel" bM_holds 2 (some .boolean) := ⟨hx, hb, hml, hown, hrt, hlk, hex, hK, hfr, hlo, by rw [← hcap]; exact hrc, hrs⟩
  rw [hml]
  have hl := lv_entry ([.ref a0, .int x1]) (n := 2) (by simp [lg_sl, cat_rf, cat_i, cat_a, cat_l, cat_n])
  rw [lg_entry_eq]
  generalize (lg_sl ([.ref a0, .int x1]) ++ List.replicate (2 - (lg_sl ([.ref a0, .int x1])).length) Slot.unset).toArray = ls at hl ⊢
  have hl : lv_has ls 2 [(0, .ref a0), (1, .int x1)] := by simpa [lv_args, cat_rf, cat_i, cat_a, cat_l, cat_n] using hl
  exact tM_holds_0 F hC a0 x1 _ _ _ _ _ _ h (RL.start hR hcap hS hU) (lv_sub hl [0, 1] rfl)
def fM_isSize_14 (n d : Nat) (C : Cx) (xs0 : Int32) (M : Mem) : Rz := if fits .boolean (.int xs0) = true then (some (.inl (some (.int xs0)), M)) else none
set_option maxRecDepth 100000 in
set_option maxHeartbeats 4000000 in
theorem tM_isSize_14 {n : Nat} (F : FX p s m meth c G R M0 d "HeadCountModel" bM_isSize 1 (some .boolean)) (hC : CBs l G d C) : ∀ (xs0 : Int32) (M : Mem) (H : Heap) (locs : List Loc) (cells slots : Nat) (ls : Array Slot), fM_isSize_14 n d C xs0 M = some (r, M') → RL G M0 M H locs cells slots → lv_has ls 1 [] → W p l e R s m args below meth c H locs cells slots (CQ G below s M0 r M') (F0 m 14 ls [.int xs0]) := by
  obtain ⟨hx, hb, hml, hown, hrt, hlk, hex, hK, hRm⟩ := id F
  intro xs0 M H locs cells slots ls h hR hl
  unfold fM_isSize_14 at h
  obtain ⟨c_1, h⟩ := rz_chk h
  cases h
  exact rt_i hx hb hlk hrt (Or.inr (Or.inr rfl)) c_1 hR dM_isSize_14
def fM_isSize_13 (n d : Nat) (C : Cx) (M : Mem) : Rz := fM_isSize_14 n d C 0 M
set_option maxRecDepth 100000 in
set_option maxHeartbeats 4000000 in
theorem tM_isSize_13 {n : Nat} (F : FX p s m meth c G R M0 d "HeadCountModel" bM_isSize 1 (some .boolean)) (hC : CBs l G d C) : ∀ (M : Mem) (H : Heap) (locs : List Loc) (cells slots : Nat) (ls : Array Slot), fM_isSize_13 n d C M = some (r, M') → RL G M0 M H locs cells slots → lv_has ls 1 [] → W p l e R s m args below meth c H locs cells slots (CQ G below s M0 r M') (F0 m 13 ls []) := by
  obtain ⟨hx, hb, hml, hown, hrt, hlk, hex, hK, hRm⟩ := id F
  intro M H locs cells slots ls h hR hl
  unfold fM_isSize_13 at h
  refine lv_iconst (v := 0) hx hb dM_isSize_13 (by decide) ?_
  exact tM_isSize_14 F hC 0 _ _ _ _ _ _ h hR (lv_sub hl [] rfl)
def fM_isSize_0 (n d : Nat) (C : Cx) (x0 : Int32) (M : Mem) : Rz := if x0 < 0 then (fM_isSize_13 n d C M) else (if 4 < x0 then (fM_isSize_13 n d C M) else (fM_isSize_14 n d C 1 M))
set_option maxRecDepth 100000 in
set_option maxHeartbeats 4000000 in
theorem tM_isSize_0 {n : Nat} (F : FX p s m meth c G R M0 d "HeadCountModel" bM_isSize 1 (some .boolean)) (hC : CBs l G d C) : ∀ (x0 : Int32) (M : Mem) (H : Heap) (locs : List Loc) (cells slots : Nat) (ls : Array Slot), fM_isSize_0 n d C x0 M = some (r, M') → RL G M0 M H locs cells slots → lv_has ls 1 [(0, .int x0)] → W p l e R s m args below meth c H locs cells slots (CQ G below s M0 r M') (F0 m 0 ls []) := by
  obtain ⟨hx, hb, hml, hown, hrt, hlk, hex, hK, hRm⟩ := id F
  intro x0 M H locs cells slots ls h hR hl
  unfold fM_isSize_0 at h
  refine lv_iload_n hx hb dM_isSize_0 rfl (lv_at hl 0 rfl) ?_
  refine lv_if_lt (tgt := 13) hx hb dM_isSize_1 (by decide) (fun c_1 => ?_) (fun c_1 => ?_)
  · replace h := rz_t c_1 h
    exact tM_isSize_13 F hC _ _ _ _ _ _ h hR (lv_sub hl [] rfl)
  · replace h := rz_f c_1 h
    refine lv_iload_n hx hb dM_isSize_4 rfl (lv_at hl 0 rfl) ?_
    refine lv_iconst (v := 4) hx hb dM_isSize_5 (by decide) ?_
    refine lv_icmp_gt (tgt := 13) hx hb dM_isSize_6 (by decide) (fun c_2 => ?_) (fun c_2 => ?_)
    · replace h := rz_t c_2 h
      exact tM_isSize_13 F hC _ _ _ _ _ _ h hR (lv_sub hl [] rfl)
    · replace h := rz_f c_2 h
      refine lv_iconst (v := 1) hx hb dM_isSize_9 (by decide) ?_
      refine lv_goto (tgt := 14) hx hb dM_isSize_10 (by decide) ?_
      exact tM_isSize_14 F hC 1 _ _ _ _ _ _ h hR (lv_sub hl [] rfl)
set_option maxRecDepth 100000 in
set_option maxHeartbeats 4000000 in
theorem sM_isSize {l : Launch} {G : Gx} {n d : Nat} {C : Cx} (hC : CBs l G d C) (x0 : Int32) {M M' : Mem} {r : Option Value ⊕ Nat} (h : fM_isSize_0 n d C x0 M = some (r, M')) : CB l G (d + 1) yM_isSize [.int x0] M r M' := by
  intro p e R s m below meth c hx hn hm hc hlk hK hR hcap hS hU hfr hlo hrc hrs
  obtain ⟨hb, hml, hrt, hex, hown⟩ := fx_of hn hm hc (hK.w mfM_isSize.2.2.1 rfl #[])
  have F : FX p s m meth c G R M d "HeadCountModel" bM_isSize 1 (some .boolean) := ⟨hx, hb, hml, hown, hrt, hlk, hex, hK, hfr, hlo, by rw [← hcap]; exact hrc, hrs⟩
  rw [hml]
  have hl := lv_entry ([.int x0]) (n := 1) (by simp [lg_sl, cat_rf, cat_i, cat_a, cat_l, cat_n])
  rw [lg_entry_eq]
  generalize (lg_sl ([.int x0]) ++ List.replicate (1 - (lg_sl ([.int x0])).length) Slot.unset).toArray = ls at hl ⊢
  have hl : lv_has ls 1 [(0, .int x0)] := by simpa [lv_args, cat_rf, cat_i, cat_a, cat_l, cat_n] using hl
  exact tM_isSize_0 F hC x0 _ _ _ _ _ _ h (RL.start hR hcap hS hU) (lv_sub hl [0] rfl)
def fM_run_193 (n d : Nat) (C : Cx) (k17 : Nat → Int32 → Int32 → Mem → Rz) (a0 : Nat) (x2 : Int32) (x6 : Int32) (M : Mem) : Rz := k17 a0 x2 x6 M
set_option maxRecDepth 100000 in
set_option maxHeartbeats 4000000 in
theorem tM_run_193 {n : Nat} {k17 : Nat → Int32 → Int32 → Mem → Rz} (F : FX p s m meth c G R M0 d "HeadCountModel" bM_run 8 (some .boolean)) (hC : CBs l G d C) (hk17 : ∀ (a0 : Nat) (x2 : Int32) (x3 : Int32) (M : Mem) (H : Heap) (locs : List Loc) (cells slots : Nat) (ls : Array Slot), k17 a0 x2 x3 M = some (r, M') → RL G M0 M H locs cells slots → lv_has ls 8 [(0, .ref a0), (2, .int x2), (3, .int x3)] → W p l e R s m args below meth c H locs cells slots (CQ G below s M0 r M') (F0 m 17 ls [])) : ∀ (a0 : Nat) (x2 : Int32) (x6 : Int32) (M : Mem) (H : Heap) (locs : List Loc) (cells slots : Nat) (ls : Array Slot), fM_run_193 n d C k17 a0 x2 x6 M = some (r, M') → RL G M0 M H locs cells slots → lv_has ls 8 [(0, .ref a0), (2, .int x2), (6, .int x6)] → W p l e R s m args below meth c H locs cells slots (CQ G below s M0 r M') (F0 m 193 ls []) := by
  obtain ⟨hx, hb, hml, hown, hrt, hlk, hex, hK, hRm⟩ := id F
  intro a0 x2 x6 M H locs cells slots ls h hR hl
  unfold fM_run_193 at h
  refine lv_iload hx hb dM_run_193 (lv_at hl 2 rfl) ?_
  refine lv_istore_n (lv' := [(3, .int x6), (0, .ref a0), (2, .int x2), (6, .int x6)]) hx hb dM_run_195 rfl hl (by decide) rfl (fun ls hl => ?_)
  refine lv_goto (tgt := 17) hx hb dM_run_196 (by decide) ?_
  exact hk17 a0 x2 x6 _ _ _ _ _ _ h hR (lv_sub hl [1, 2, 0] rfl)
def fM_run_75 (n d : Nat) (C : Cx) (k17 : Nat → Int32 → Int32 → Mem → Rz) (a0 : Nat) (x2 : Int32) (x5 : Int32) (x6 : Int32) (xs0 : Int32) (xs1 : Int32) (rs2 : Option Nat) (M : Mem) : Rz := rzD rs2 fun a_1 => (if mK M a_1 = 21 then (if inA xs1 (mL M a_1) then (rzM (setI M a_1 xs1.toNatClampNeg xs0) fun M_5 => (if mK M_5 a0 = 5 then (rzD (mP M_5 a0 37) fun a_9 => (if mK M_5 a_9 = 21 then (if inA x5 (mL M_5 a_9) then (rzM (setI M_5 a_9 x5.toNatClampNeg x6) fun M_13 => (fM_run_193 n d C k17 a0 x2 x6 M_13)) else none) else none)) else none)) else none) else none)
set_option maxRecDepth 100000 in
set_option maxHeartbeats 4000000 in
theorem tM_run_75 {n : Nat} {k17 : Nat → Int32 → Int32 → Mem → Rz} (F : FX p s m meth c G R M0 d "HeadCountModel" bM_run 8 (some .boolean)) (hC : CBs l G d C) (hk17 : ∀ (a0 : Nat) (x2 : Int32) (x3 : Int32) (M : Mem) (H : Heap) (locs : List Loc) (cells slots : Nat) (ls : Array Slot), k17 a0 x2 x3 M = some (r, M') → RL G M0 M H locs cells slots → lv_has ls 8 [(0, .ref a0), (2, .int x2), (3, .int x3)] → W p l e R s m args below meth c H locs cells slots (CQ G below s M0 r M') (F0 m 17 ls [])) : ∀ (a0 : Nat) (x2 : Int32) (x5 : Int32) (x6 : Int32) (xs0 : Int32) (xs1 : Int32) (rs2 : Option Nat) (M : Mem) (H : Heap) (locs : List Loc) (cells slots : Nat) (ls : Array Slot), fM_run_75 n d C k17 a0 x2 x5 x6 xs0 xs1 rs2 M = some (r, M') → RL G M0 M H locs cells slots → lv_has ls 8 [(0, .ref a0), (2, .int x2), (5, .int x5), (6, .int x6)] → W p l e R s m args below meth c H locs cells slots (CQ G below s M0 r M') (F0 m 75 ls [.int xs0, .int xs1, va_rf rs2]) := by
  obtain ⟨hx, hb, hml, hown, hrt, hlk, hex, hK, hRm⟩ := id F
  intro a0 x2 x5 x6 xs0 xs1 rs2 M H locs cells slots ls h hR hl
  unfold fM_run_75 at h
  obtain ⟨a_1, e_2, h⟩ := rz_d h
  rw [e_2]
  obtain ⟨c_3, h⟩ := rz_chk h
  obtain ⟨c_4, h⟩ := rz_chk h
  obtain ⟨M_5, q_6, h⟩ := rz_m h
  refine rg_iast hx hb hK hR c_3 c_4 dM_run_75 (fun H locs hR => ?_)
  rw [← q_6] at hR
  have c_7 : mK M_5 a_1 = 21 := by rw [q_6]; exact c_3
  refine lv_aload_n hx hb dM_run_76 rfl (lv_at hl 0 rfl) ?_
  obtain ⟨c_8, h⟩ := rz_chk h
  refine rg_getP hx hb hown hK hR hk_M 37 (by decide) kf_M_54 rfl c_8 dM_run_77 ?_
  refine lv_iload hx hb dM_run_80 (lv_at hl 2 rfl) ?_
  refine lv_iload hx hb dM_run_82 (lv_at hl 3 rfl) ?_
  obtain ⟨a_9, e_10, h⟩ := rz_d h
  rw [e_10]
  obtain ⟨c_11, h⟩ := rz_chk h
  obtain ⟨c_12, h⟩ := rz_chk h
  obtain ⟨M_13, q_14, h⟩ := rz_m h
  refine rg_iast hx hb hK hR c_11 c_12 dM_run_84 (fun H locs hR => ?_)
  rw [← q_14] at hR
  have c_15 : mK M_13 a_1 = 21 := by rw [q_14]; exact c_7
  have c_16 : mK M_13 a0 = 5 := by rw [q_14]; exact c_8
  have c_17 : mK M_13 a_9 = 21 := by rw [q_14]; exact c_11
  refine lv_goto (tgt := 193) hx hb dM_run_85 (by decide) ?_
  exact tM_run_193 F hC hk17 a0 x2 x6 _ _ _ _ _ _ h hR (lv_sub hl [0, 1, 3] rfl)
def fM_run_145 (n d : Nat) (C : Cx) (k17 : Nat → Int32 → Int32 → Mem → Rz) (a0 : Nat) (x2 : Int32) (x6 : Int32) (M : Mem) : Rz := fM_run_193 n d C k17 a0 x2 x6 M
set_option maxRecDepth 100000 in
set_option maxHeartbeats 4000000 in
theorem tM_run_145 {n : Nat} {k17 : Nat → Int32 → Int32 → Mem → Rz} (F : FX p s m meth c G R M0 d "HeadCountModel" bM_run 8 (some .boolean)) (hC : CBs l G d C) (hk17 : ∀ (a0 : Nat) (x2 : Int32) (x3 : Int32) (M : Mem) (H : Heap) (locs : List Loc) (cells slots : Nat) (ls : Array Slot), k17 a0 x2 x3 M = some (r, M') → RL G M0 M H locs cells slots → lv_has ls 8 [(0, .ref a0), (2, .int x2), (3, .int x3)] → W p l e R s m args below meth c H locs cells slots (CQ G below s M0 r M') (F0 m 17 ls [])) : ∀ (a0 : Nat) (x2 : Int32) (x6 : Int32) (M : Mem) (H : Heap) (locs : List Loc) (cells slots : Nat) (ls : Array Slot), fM_run_145 n d C k17 a0 x2 x6 M = some (r, M') → RL G M0 M H locs cells slots → lv_has ls 8 [(0, .ref a0), (2, .int x2), (6, .int x6)] → W p l e R s m args below meth c H locs cells slots (CQ G below s M0 r M') (F0 m 145 ls []) := by
  obtain ⟨hx, hb, hml, hown, hrt, hlk, hex, hK, hRm⟩ := id F
  intro a0 x2 x6 M H locs cells slots ls h hR hl
  unfold fM_run_145 at h
  refine lv_goto (tgt := 193) hx hb dM_run_145 (by decide) ?_
  exact tM_run_193 F hC hk17 a0 x2 x6 _ _ _ _ _ _ h hR (lv_sub hl [0, 1, 2] rfl)
def fM_run_119 (n d : Nat) (C : Cx) (k17 : Nat → Int32 → Int32 → Mem → Rz) (a0 : Nat) (x2 : Int32) (x5 : Int32) (x6 : Int32) (xs0 : Int32) (xs1 : Int32) (xs2 : Int32) (as3 : Nat) (M : Mem) : Rz := if mK M as3 = 5 then (rzC (C 98 [.ref as3, .int xs2, .int xs1, .int xs0] M) fun v_2 M_3 => (rzI v_2 fun x_6 => (if x_6 = 0 then (if mK M_3 a0 = 5 then (rzD (mP M_3 a0 36) fun a_9 => (if mK M_3 a_9 = 21 then (if inA x5 (mL M_3 a_9) then (if inA x5 (mL M_3 a_9) then (rzM (setI M_3 a_9 x5.toNatClampNeg ((mI M_3 a_9 x5.toNatClampNeg) + 1)) fun M_14 => (rzD (mP M_14 a0 37) fun a_18 => (if mK M_14 a_18 = 21 then (if inA x5 (mL M_14 a_18) then (fM_run_145 n d C k17 a0 x2 (mI M_14 a_18 x5.toNatClampNeg) M_14) else none) else none))) else none) else none) else none)) else none) else (fM_run_145 n d C k17 a0 x2 x6 M_3)))) else none
set_option maxRecDepth 100000 in
set_option maxHeartbeats 4000000 in
theorem tM_run_119 {n : Nat} {k17 : Nat → Int32 → Int32 → Mem → Rz} (F : FX p s m meth c G R M0 d "HeadCountModel" bM_run 8 (some .boolean)) (hC : CBs l G d C) (hk17 : ∀ (a0 : Nat) (x2 : Int32) (x3 : Int32) (M : Mem) (H : Heap) (locs : List Loc) (cells slots : Nat) (ls : Array Slot), k17 a0 x2 x3 M = some (r, M') → RL G M0 M H locs cells slots → lv_has ls 8 [(0, .ref a0), (2, .int x2), (3, .int x3)] → W p l e R s m args below meth c H locs cells slots (CQ G below s M0 r M') (F0 m 17 ls [])) : ∀ (a0 : Nat) (x2 : Int32) (x5 : Int32) (x6 : Int32) (xs0 : Int32) (xs1 : Int32) (xs2 : Int32) (as3 : Nat) (M : Mem) (H : Heap) (locs : List Loc) (cells slots : Nat) (ls : Array Slot), fM_run_119 n d C k17 a0 x2 x5 x6 xs0 xs1 xs2 as3 M = some (r, M') → RL G M0 M H locs cells slots → lv_has ls 8 [(0, .ref a0), (2, .int x2), (5, .int x5), (6, .int x6)] → W p l e R s m args below meth c H locs cells slots (CQ G below s M0 r M') (F0 m 119 ls [.int xs0, .int xs1, .int xs2, .ref as3]) := by
  obtain ⟨hx, hb, hml, hown, hrt, hlk, hex, hK, hRm⟩ := id F
  intro a0 x2 x5 x6 xs0 xs1 xs2 as3 M H locs cells slots ls h hR hl
  unfold fM_run_119 at h
  obtain ⟨c_1, h⟩ := rz_chk h
  obtain ⟨q_5, M_3, h_4, h⟩ := rz_c h
  refine rc_V (rest := []) (As := [.int xs2, .int xs1, .int xs0]) hx hb (hl.1.trans hml.symm) hown hK hR hRm mfM_ends kl_M_228 hk_M rfl rfl c_1 (by simp [cat_rf, cat_i, cat_a, cat_l, cat_n]) (hC 98 _ _ _ _ h_4) dM_run_119 (fun v1 H locs cells slots ev hR => ?_) (fun x1 q1 ce1 H locs cells slots ex hR g1 g2 g3 => ?_)
  · rcases h with ⟨v_2, ev2, h⟩ | ⟨e2, ee2, -⟩
    · cases ev.symm.trans ev2
      replace h := rz_i h
      obtain ⟨x_6, rfl, h⟩ := h
      dsimp only [Option.toList, List.cons_append, List.nil_append]
      refine lv_if_ne (tgt := 145) hx hb dM_run_122 (by decide) (fun c_7 => ?_) (fun c_7 => ?_)
      · replace h := rz_f c_7 h
        exact tM_run_145 F hC hk17 a0 x2 x6 _ _ _ _ _ _ h hR (lv_sub hl [0, 1, 3] rfl)
      · replace h := rz_t c_7 h
        refine lv_aload_n hx hb dM_run_125 rfl (lv_at hl 0 rfl) ?_
        obtain ⟨c_8, h⟩ := rz_chk h
        refine rg_getP hx hb hown hK hR hk_M 36 (by decide) kf_M_51 rfl c_8 dM_run_126 ?_
        refine lv_iload hx hb dM_run_129 (lv_at hl 2 rfl) ?_
        refine lv_dup2_11 hx hb dM_run_131 rfl (cat_rf _) ?_
        obtain ⟨a_9, e_10, h⟩ := rz_d h
        rw [e_10]
        obtain ⟨c_11, h⟩ := rz_chk h
        obtain ⟨c_12, h⟩ := rz_chk h
        refine rg_iald hx hb hK hR c_11 c_12 dM_run_132 ?_
        refine lv_iconst (v := 1) hx hb dM_run_133 (by decide) ?_
        refine lv_iadd hx hb dM_run_134 ?_
        obtain ⟨c_13, h⟩ := rz_chk h
        obtain ⟨M_14, q_15, h⟩ := rz_m h
        refine rg_iast hx hb hK hR c_11 c_13 dM_run_135 (fun H locs hR => ?_)
        rw [← q_15] at hR
        have c_16 : mK M_14 a0 = 5 := by rw [q_15]; exact c_8
        have c_17 : mK M_14 a_9 = 21 := by rw [q_15]; exact c_11
        refine lv_aload_n hx hb dM_run_136 rfl (lv_at hl 0 rfl) ?_
        refine rg_getP hx hb hown hK hR hk_M 37 (by decide) kf_M_54 rfl c_16 dM_run_137 ?_
        refine lv_iload hx hb dM_run_140 (lv_at hl 2 rfl) ?_
        obtain ⟨a_18, e_19, h⟩ := rz_d h
        rw [e_19]
        obtain ⟨c_20, h⟩ := rz_chk h
        obtain ⟨c_21, h⟩ := rz_chk h
        refine rg_iald hx hb hK hR c_20 c_21 dM_run_142 ?_
        refine lv_istore (lv' := [(6, .int (mI M_14 a_18 x5.toNatClampNeg)), (0, .ref a0), (2, .int x2), (5, .int x5)]) hx hb dM_run_143 hl (by decide) rfl (fun ls hl => ?_)
        exact tM_run_145 F hC hk17 a0 x2 (mI M_14 a_18 x5.toNatClampNeg) _ _ _ _ _ _ h hR (lv_sub hl [1, 2, 0] rfl)
    · cases ev.symm.trans ee2
  · rcases h with ⟨v2, ev2, -⟩ | ⟨e2, ee2, h⟩
    · cases ex.symm.trans ev2
    · cases ex.symm.trans ee2
      cases h
      exact rt_x hlk hex hR g1 g2 g3
def fM_run_118 (n d : Nat) (C : Cx) (k17 : Nat → Int32 → Int32 → Mem → Rz) (a0 : Nat) (x2 : Int32) (x5 : Int32) (x6 : Int32) (xs0 : Int32) (xs1 : Int32) (as2 : Nat) (M : Mem) : Rz := fM_run_119 n d C k17 a0 x2 x5 x6 0 xs0 xs1 as2 M
set_option maxRecDepth 100000 in
set_option maxHeartbeats 4000000 in
theorem tM_run_118 {n : Nat} {k17 : Nat → Int32 → Int32 → Mem → Rz} (F : FX p s m meth c G R M0 d "HeadCountModel" bM_run 8 (some .boolean)) (hC : CBs l G d C) (hk17 : ∀ (a0 : Nat) (x2 : Int32) (x3 : Int32) (M : Mem) (H : Heap) (locs : List Loc) (cells slots : Nat) (ls : Array Slot), k17 a0 x2 x3 M = some (r, M') → RL G M0 M H locs cells slots → lv_has ls 8 [(0, .ref a0), (2, .int x2), (3, .int x3)] → W p l e R s m args below meth c H locs cells slots (CQ G below s M0 r M') (F0 m 17 ls [])) : ∀ (a0 : Nat) (x2 : Int32) (x5 : Int32) (x6 : Int32) (xs0 : Int32) (xs1 : Int32) (as2 : Nat) (M : Mem) (H : Heap) (locs : List Loc) (cells slots : Nat) (ls : Array Slot), fM_run_118 n d C k17 a0 x2 x5 x6 xs0 xs1 as2 M = some (r, M') → RL G M0 M H locs cells slots → lv_has ls 8 [(0, .ref a0), (2, .int x2), (5, .int x5), (6, .int x6)] → W p l e R s m args below meth c H locs cells slots (CQ G below s M0 r M') (F0 m 118 ls [.int xs0, .int xs1, .ref as2]) := by
  obtain ⟨hx, hb, hml, hown, hrt, hlk, hex, hK, hRm⟩ := id F
  intro a0 x2 x5 x6 xs0 xs1 as2 M H locs cells slots ls h hR hl
  unfold fM_run_118 at h
  refine lv_iconst (v := 0) hx hb dM_run_118 (by decide) ?_
  exact tM_run_119 F hC hk17 a0 x2 x5 x6 0 xs0 xs1 as2 _ _ _ _ _ _ h hR (lv_sub hl [0, 1, 2, 3] rfl)
def fM_run_176 (n d : Nat) (C : Cx) (k17 : Nat → Int32 → Int32 → Mem → Rz) (a0 : Nat) (x2 : Int32) (x4 : Int32) (x5 : Int32) (x6 : Int32) (M : Mem) : Rz := if mK M a0 = 5 then (rzC (C 101 [.ref a0, .int x4, .int x5] M) fun v_2 M_3 => (rzV v_2 (fM_run_193 n d C k17 a0 x2 x6 M_3))) else none
set_option maxRecDepth 100000 in
set_option maxHeartbeats 4000000 in
theorem tM_run_176 {n : Nat} {k17 : Nat → Int32 → Int32 → Mem → Rz} (F : FX p s m meth c G R M0 d "HeadCountModel" bM_run 8 (some .boolean)) (hC : CBs l G d C) (hk17 : ∀ (a0 : Nat) (x2 : Int32) (x3 : Int32) (M : Mem) (H : Heap) (locs : List Loc) (cells slots : Nat) (ls : Array Slot), k17 a0 x2 x3 M = some (r, M') → RL G M0 M H locs cells slots → lv_has ls 8 [(0, .ref a0), (2, .int x2), (3, .int x3)] → W p l e R s m args below meth c H locs cells slots (CQ G below s M0 r M') (F0 m 17 ls [])) : ∀ (a0 : Nat) (x2 : Int32) (x4 : Int32) (x5 : Int32) (x6 : Int32) (M : Mem) (H : Heap) (locs : List Loc) (cells slots : Nat) (ls : Array Slot), fM_run_176 n d C k17 a0 x2 x4 x5 x6 M = some (r, M') → RL G M0 M H locs cells slots → lv_has ls 8 [(0, .ref a0), (2, .int x2), (4, .int x4), (5, .int x5), (6, .int x6)] → W p l e R s m args below meth c H locs cells slots (CQ G below s M0 r M') (F0 m 176 ls []) := by
  obtain ⟨hx, hb, hml, hown, hrt, hlk, hex, hK, hRm⟩ := id F
  intro a0 x2 x4 x5 x6 M H locs cells slots ls h hR hl
  unfold fM_run_176 at h
  refine lv_aload_n hx hb dM_run_176 rfl (lv_at hl 0 rfl) ?_
  refine lv_iload hx hb dM_run_177 (lv_at hl 2 rfl) ?_
  refine lv_iload hx hb dM_run_179 (lv_at hl 3 rfl) ?_
  obtain ⟨c_1, h⟩ := rz_chk h
  obtain ⟨q_5, M_3, h_4, h⟩ := rz_c h
  refine rc_V (rest := []) (As := [.int x4, .int x5]) hx hb (hl.1.trans hml.symm) hown hK hR hRm mfM_doSum kl_M_232 hk_M rfl rfl c_1 (by simp [cat_rf, cat_i, cat_a, cat_l, cat_n]) (hC 101 _ _ _ _ h_4) dM_run_181 (fun v1 H locs cells slots ev hR => ?_) (fun x1 q1 ce1 H locs cells slots ex hR g1 g2 g3 => ?_)
  · rcases h with ⟨v_2, ev2, h⟩ | ⟨e2, ee2, -⟩
    · cases ev.symm.trans ev2
      replace h := rz_v h
      obtain ⟨rfl, h⟩ := h
      dsimp only [Option.toList, List.cons_append, List.nil_append]
      refine lv_goto (tgt := 193) hx hb dM_run_184 (by decide) ?_
      exact tM_run_193 F hC hk17 a0 x2 x6 _ _ _ _ _ _ h hR (lv_sub hl [0, 1, 4] rfl)
    · cases ev.symm.trans ee2
  · rcases h with ⟨v2, ev2, -⟩ | ⟨e2, ee2, h⟩
    · cases ex.symm.trans ev2
    · cases ex.symm.trans ee2
      cases h
      exact rt_x hlk hex hR g1 g2 g3
def fM_run_162 (n d : Nat) (C : Cx) (k17 : Nat → Int32 → Int32 → Mem → Rz) (a0 : Nat) (x2 : Int32) (x4 : Int32) (x5 : Int32) (x6 : Int32) (M : Mem) : Rz := if x4 = 21 then (fM_run_176 n d C k17 a0 x2 x4 x5 x6 M) else (if x4 = 11 then (fM_run_176 n d C k17 a0 x2 x4 x5 x6 M) else (if mK M a0 = 5 then (rzC (C 103 [.ref a0, .int x4] M) fun v_4 M_5 => (rzV v_4 (fM_run_193 n d C k17 a0 x2 x6 M_5))) else none))
set_option maxRecDepth 100000 in
set_option maxHeartbeats 4000000 in
theorem tM_run_162 {n : Nat} {k17 : Nat → Int32 → Int32 → Mem → Rz} (F : FX p s m meth c G R M0 d "HeadCountModel" bM_run 8 (some .boolean)) (hC : CBs l G d C) (hk17 : ∀ (a0 : Nat) (x2 : Int32) (x3 : Int32) (M : Mem) (H : Heap) (locs : List Loc) (cells slots : Nat) (ls : Array Slot), k17 a0 x2 x3 M = some (r, M') → RL G M0 M H locs cells slots → lv_has ls 8 [(0, .ref a0), (2, .int x2), (3, .int x3)] → W p l e R s m args below meth c H locs cells slots (CQ G below s M0 r M') (F0 m 17 ls [])) : ∀ (a0 : Nat) (x2 : Int32) (x4 : Int32) (x5 : Int32) (x6 : Int32) (M : Mem) (H : Heap) (locs : List Loc) (cells slots : Nat) (ls : Array Slot), fM_run_162 n d C k17 a0 x2 x4 x5 x6 M = some (r, M') → RL G M0 M H locs cells slots → lv_has ls 8 [(0, .ref a0), (2, .int x2), (4, .int x4), (5, .int x5), (6, .int x6)] → W p l e R s m args below meth c H locs cells slots (CQ G below s M0 r M') (F0 m 162 ls []) := by
  obtain ⟨hx, hb, hml, hown, hrt, hlk, hex, hK, hRm⟩ := id F
  intro a0 x2 x4 x5 x6 M H locs cells slots ls h hR hl
  unfold fM_run_162 at h
  refine lv_iload hx hb dM_run_162 (lv_at hl 2 rfl) ?_
  refine lv_bipush (v := 21) hx hb dM_run_164 (by decide) ?_
  refine lv_icmp_eq (tgt := 176) hx hb dM_run_166 (by decide) (fun c_1 => ?_) (fun c_1 => ?_)
  · replace h := rz_t c_1 h
    exact tM_run_176 F hC hk17 a0 x2 x4 x5 x6 _ _ _ _ _ _ h hR (lv_sub hl [0, 1, 2, 3, 4] rfl)
  · replace h := rz_f c_1 h
    refine lv_iload hx hb dM_run_169 (lv_at hl 2 rfl) ?_
    refine lv_bipush (v := 11) hx hb dM_run_171 (by decide) ?_
    refine lv_icmp_ne (tgt := 187) hx hb dM_run_173 (by decide) (fun c_2 => ?_) (fun c_2 => ?_)
    · replace h := rz_f c_2 h
      refine lv_aload_n hx hb dM_run_187 rfl (lv_at hl 0 rfl) ?_
      refine lv_iload hx hb dM_run_188 (lv_at hl 2 rfl) ?_
      obtain ⟨c_3, h⟩ := rz_chk h
      obtain ⟨q_7, M_5, h_6, h⟩ := rz_c h
      refine rc_V (rest := []) (As := [.int x4]) hx hb (hl.1.trans hml.symm) hown hK hR hRm mfM_doOther kl_M_235 hk_M rfl rfl c_3 (by simp [cat_rf, cat_i, cat_a, cat_l, cat_n]) (hC 103 _ _ _ _ h_6) dM_run_190 (fun v1 H locs cells slots ev hR => ?_) (fun x1 q1 ce1 H locs cells slots ex hR g1 g2 g3 => ?_)
      · rcases h with ⟨v_4, ev2, h⟩ | ⟨e2, ee2, -⟩
        · cases ev.symm.trans ev2
          replace h := rz_v h
          obtain ⟨rfl, h⟩ := h
          dsimp only [Option.toList, List.cons_append, List.nil_append]
          exact tM_run_193 F hC hk17 a0 x2 x6 _ _ _ _ _ _ h hR (lv_sub hl [0, 1, 4] rfl)
        · cases ev.symm.trans ee2
      · rcases h with ⟨v2, ev2, -⟩ | ⟨e2, ee2, h⟩
        · cases ex.symm.trans ev2
        · cases ex.symm.trans ee2
          cases h
          exact rt_x hlk hex hR g1 g2 g3
    · replace h := rz_t c_2 h
      exact tM_run_176 F hC hk17 a0 x2 x4 x5 x6 _ _ _ _ _ _ h hR (lv_sub hl [0, 1, 2, 3, 4] rfl)
def fM_run_214 (n d : Nat) (C : Cx) (xs0 : Int32) (M : Mem) : Rz := if fits .boolean (.int xs0) = true then (some (.inl (some (.int xs0)), M)) else none
set_option maxRecDepth 100000 in
set_option maxHeartbeats 4000000 in
theorem tM_run_214 {n : Nat} (F : FX p s m meth c G R M0 d "HeadCountModel" bM_run 8 (some .boolean)) (hC : CBs l G d C) : ∀ (xs0 : Int32) (M : Mem) (H : Heap) (locs : List Loc) (cells slots : Nat) (ls : Array Slot), fM_run_214 n d C xs0 M = some (r, M') → RL G M0 M H locs cells slots → lv_has ls 8 [] → W p l e R s m args below meth c H locs cells slots (CQ G below s M0 r M') (F0 m 214 ls [.int xs0]) := by
  obtain ⟨hx, hb, hml, hown, hrt, hlk, hex, hK, hRm⟩ := id F
  intro xs0 M H locs cells slots ls h hR hl
  unfold fM_run_214 at h
  obtain ⟨c_1, h⟩ := rz_chk h
  cases h
  exact rt_i hx hb hlk hrt (Or.inr (Or.inr rfl)) c_1 hR dM_run_214
def fM_run_17 (n d : Nat) (C : Cx) : Nat → Nat → Int32 → Int32 → Mem → Rz
  | 0, _, _, _, _ => none
  | w + 1, a0, x2, x3, M => if mK M a0 = 5 then (if (mI M a0 4) ≤ x3 then (rzD (mP M a0 39) fun a_3 => (if mK M a_3 = 21 then (if inA 0 (mL M a_3) then (if (mI M a_3 (0 : Int32).toNatClampNeg) = 1 then (fM_run_214 n d C 1 M) else (fM_run_214 n d C 0 M)) else none) else none)) else (rzD (mP M a0 6) fun a_8 => (if mK M a_8 = 21 then (if inA x3 (mL M a_8) then (rzD (mP M a0 7) fun a_12 => (if mK M a_12 = 21 then (if inA x3 (mL M a_12) then (if (mI M a_8 x3.toNatClampNeg) = 12 then (rzD (mP M a0 9) fun a_27 => (if mK M a_27 = 23 then (if inA (mI M a_12 x3.toNatClampNeg) (mL M a_27) then (if (mI M a_27 (mI M a_12 x3.toNatClampNeg).toNatClampNeg) = 0 then (fM_run_75 n d C (fM_run_17 n d C w) a0 x2 (mI M a_12 x3.toNatClampNeg) (x3 + 1) ((-8)) (mI M a_12 x3.toNatClampNeg) (mP M a0 36) M) else (fM_run_75 n d C (fM_run_17 n d C w) a0 x2 (mI M a_12 x3.toNatClampNeg) (x3 + 1) 0 (mI M a_12 x3.toNatClampNeg) (mP M a0 36) M)) else none) else none)) else (if (mI M a_8 x3.toNatClampNeg) = 5 then (rzC (C 97 [.ref a0] M) fun v_20 M_21 => (rzI v_20 fun x_24 => (if x2 = 0 then (fM_run_118 n d C (fM_run_17 n d C w) a0 x2 (mI M a_12 x3.toNatClampNeg) (x3 + 1) x_24 (mI M a_12 x3.toNatClampNeg) a0 M_21) else (if (mI M a_12 x3.toNatClampNeg) = 0 then (fM_run_119 n d C (fM_run_17 n d C w) a0 x2 (mI M a_12 x3.toNatClampNeg) (x3 + 1) 1 x_24 (mI M a_12 x3.toNatClampNeg) a0 M_21) else (fM_run_118 n d C (fM_run_17 n d C w) a0 x2 (mI M a_12 x3.toNatClampNeg) (x3 + 1) x_24 (mI M a_12 x3.toNatClampNeg) a0 M_21))))) else (if (mI M a_8 x3.toNatClampNeg) < 13 then (fM_run_162 n d C (fM_run_17 n d C w) a0 x2 (mI M a_8 x3.toNatClampNeg) (mI M a_12 x3.toNatClampNeg) (x3 + 1) M) else (if (mI M a_8 x3.toNatClampNeg) ≤ 18 then (fM_run_176 n d C (fM_run_17 n d C w) a0 x2 (mI M a_8 x3.toNatClampNeg) (mI M a_12 x3.toNatClampNeg) (x3 + 1) M) else (fM_run_162 n d C (fM_run_17 n d C w) a0 x2 (mI M a_8 x3.toNatClampNeg) (mI M a_12 x3.toNatClampNeg) (x3 + 1) M))))) else none) else none)) else none) else none))) else none
set_option maxRecDepth 100000 in
set_option maxHeartbeats 4000000 in
theorem tM_run_17 {n : Nat} (F : FX p s m meth c G R M0 d "HeadCountModel" bM_run 8 (some .boolean)) (hC : CBs l G d C) : ∀ (w : Nat) (a0 : Nat) (x2 : Int32) (x3 : Int32) (M : Mem) (H : Heap) (locs : List Loc) (cells slots : Nat) (ls : Array Slot), fM_run_17 n d C w a0 x2 x3 M = some (r, M') → RL G M0 M H locs cells slots → lv_has ls 8 [(0, .ref a0), (2, .int x2), (3, .int x3)] → W p l e R s m args below meth c H locs cells slots (CQ G below s M0 r M') (F0 m 17 ls []) := by
  obtain ⟨hx, hb, hml, hown, hrt, hlk, hex, hK, hRm⟩ := id F
  intro w
  induction w with
  | zero => intro a0 x2 x3 M H locs cells slots ls h; cases h
  | succ w ih =>
    intro a0 x2 x3 M H locs cells slots ls h hR hl
    rw [fM_run_17] at h
    refine lv_iload_n hx hb dM_run_17 rfl (lv_at hl 2 rfl) ?_
    refine lv_aload_n hx hb dM_run_18 rfl (lv_at hl 0 rfl) ?_
    obtain ⟨c_1, h⟩ := rz_chk h
    refine rg_getI hx hb hown hK hR hk_M 4 (by decide) kf_M_197 rfl c_1 dM_run_19 ?_
    refine lv_icmp_ge (tgt := 199) hx hb dM_run_22 (by decide) (fun c_2 => ?_) (fun c_2 => ?_)
    · replace h := rz_t c_2 h
      refine lv_aload_n hx hb dM_run_199 rfl (lv_at hl 0 rfl) ?_
      refine rg_getP hx hb hown hK hR hk_M 39 (by decide) kf_M_57 rfl c_1 dM_run_200 ?_
      refine lv_iconst (v := 0) hx hb dM_run_203 (by decide) ?_
      obtain ⟨a_3, e_4, h⟩ := rz_d h
      rw [e_4]
      obtain ⟨c_5, h⟩ := rz_chk h
      obtain ⟨c_6, h⟩ := rz_chk h
      refine rg_iald hx hb hK hR c_5 c_6 dM_run_204 ?_
      refine lv_iconst (v := 1) hx hb dM_run_205 (by decide) ?_
      refine lv_icmp_ne (tgt := 213) hx hb dM_run_206 (by decide) (fun c_7 => ?_) (fun c_7 => ?_)
      · replace h := rz_f c_7 h
        refine lv_iconst (v := 0) hx hb dM_run_213 (by decide) ?_
        exact tM_run_214 F hC 0 _ _ _ _ _ _ h hR (lv_sub hl [] rfl)
      · replace h := rz_t c_7 h
        refine lv_iconst (v := 1) hx hb dM_run_209 (by decide) ?_
        refine lv_goto (tgt := 214) hx hb dM_run_210 (by decide) ?_
        exact tM_run_214 F hC 1 _ _ _ _ _ _ h hR (lv_sub hl [] rfl)
    · replace h := rz_f c_2 h
      refine lv_aload_n hx hb dM_run_25 rfl (lv_at hl 0 rfl) ?_
      refine rg_getP hx hb hown hK hR hk_M 6 (by decide) kf_M_13 rfl c_1 dM_run_26 ?_
      refine lv_iload_n hx hb dM_run_29 rfl (lv_at hl 2 rfl) ?_
      obtain ⟨a_8, e_9, h⟩ := rz_d h
      rw [e_9]
      obtain ⟨c_10, h⟩ := rz_chk h
      obtain ⟨c_11, h⟩ := rz_chk h
      refine rg_iald hx hb hK hR c_10 c_11 dM_run_30 ?_
      refine lv_istore (lv' := [(4, .int (mI M a_8 x3.toNatClampNeg)), (0, .ref a0), (2, .int x2), (3, .int x3)]) hx hb dM_run_31 hl (by decide) rfl (fun ls hl => ?_)
      refine lv_aload_n hx hb dM_run_33 rfl (lv_at hl 1 rfl) ?_
      refine rg_getP hx hb hown hK hR hk_M 7 (by decide) kf_M_17 rfl c_1 dM_run_34 ?_
      refine lv_iload_n hx hb dM_run_37 rfl (lv_at hl 3 rfl) ?_
      obtain ⟨a_12, e_13, h⟩ := rz_d h
      rw [e_13]
      obtain ⟨c_14, h⟩ := rz_chk h
      obtain ⟨c_15, h⟩ := rz_chk h
      refine rg_iald hx hb hK hR c_14 c_15 dM_run_38 ?_
      refine lv_istore (lv' := [(5, .int (mI M a_12 x3.toNatClampNeg)), (4, .int (mI M a_8 x3.toNatClampNeg)), (0, .ref a0), (2, .int x2), (3, .int x3)]) hx hb dM_run_39 hl (by decide) rfl (fun ls hl => ?_)
      refine lv_iload_n hx hb dM_run_41 rfl (lv_at hl 4 rfl) ?_
      refine lv_iconst (v := 1) hx hb dM_run_42 (by decide) ?_
      refine lv_iadd hx hb dM_run_43 ?_
      refine lv_istore (lv' := [(6, .int (x3 + 1)), (5, .int (mI M a_12 x3.toNatClampNeg)), (4, .int (mI M a_8 x3.toNatClampNeg)), (0, .ref a0), (2, .int x2), (3, .int x3)]) hx hb dM_run_44 hl (by decide) rfl (fun ls hl => ?_)
      refine lv_iload hx hb dM_run_46 (lv_at hl 2 rfl) ?_
      refine lv_bipush (v := 12) hx hb dM_run_48 (by decide) ?_
      refine lv_icmp_ne (tgt := 88) hx hb dM_run_50 (by decide) (fun c_16 => ?_) (fun c_16 => ?_)
      · replace h := rz_f c_16 h
        refine lv_iload hx hb dM_run_88 (lv_at hl 2 rfl) ?_
        refine lv_iconst (v := 5) hx hb dM_run_90 (by decide) ?_
        refine lv_icmp_ne (tgt := 148) hx hb dM_run_91 (by decide) (fun c_17 => ?_) (fun c_17 => ?_)
        · replace h := rz_f c_17 h
          refine lv_iload hx hb dM_run_148 (lv_at hl 2 rfl) ?_
          refine lv_bipush (v := 13) hx hb dM_run_150 (by decide) ?_
          refine lv_icmp_lt (tgt := 162) hx hb dM_run_152 (by decide) (fun c_18 => ?_) (fun c_18 => ?_)
          · replace h := rz_t c_18 h
            exact tM_run_162 F hC ih a0 x2 (mI M a_8 x3.toNatClampNeg) (mI M a_12 x3.toNatClampNeg) (x3 + 1) _ _ _ _ _ _ h hR (lv_sub hl [3, 4, 2, 1, 0] rfl)
          · replace h := rz_f c_18 h
            refine lv_iload hx hb dM_run_155 (lv_at hl 2 rfl) ?_
            refine lv_bipush (v := 18) hx hb dM_run_157 (by decide) ?_
            refine lv_icmp_le (tgt := 176) hx hb dM_run_159 (by decide) (fun c_19 => ?_) (fun c_19 => ?_)
            · replace h := rz_t c_19 h
              exact tM_run_176 F hC ih a0 x2 (mI M a_8 x3.toNatClampNeg) (mI M a_12 x3.toNatClampNeg) (x3 + 1) _ _ _ _ _ _ h hR (lv_sub hl [3, 4, 2, 1, 0] rfl)
            · replace h := rz_f c_19 h
              exact tM_run_162 F hC ih a0 x2 (mI M a_8 x3.toNatClampNeg) (mI M a_12 x3.toNatClampNeg) (x3 + 1) _ _ _ _ _ _ h hR (lv_sub hl [3, 4, 2, 1, 0] rfl)
        · replace h := rz_t c_17 h
          refine lv_aload_n hx hb dM_run_94 rfl (lv_at hl 3 rfl) ?_
          obtain ⟨q_23, M_21, h_22, h⟩ := rz_c h
          refine rc_V (rest := []) (As := []) hx hb (hl.1.trans hml.symm) hown hK hR hRm mfM_pop kl_M_209 hk_M rfl rfl c_1 (by simp [cat_rf, cat_i, cat_a, cat_l, cat_n]) (hC 97 _ _ _ _ h_22) dM_run_95 (fun v1 H locs cells slots ev hR => ?_) (fun x1 q1 ce1 H locs cells slots ex hR g1 g2 g3 => ?_)
          · rcases h with ⟨v_20, ev2, h⟩ | ⟨e2, ee2, -⟩
            · cases ev.symm.trans ev2
              replace h := rz_i h
              obtain ⟨x_24, rfl, h⟩ := h
              dsimp only [Option.toList, List.cons_append, List.nil_append]
              refine lv_istore (lv' := [(7, .int x_24), (6, .int (x3 + 1)), (5, .int (mI M a_12 x3.toNatClampNeg)), (4, .int (mI M a_8 x3.toNatClampNeg)), (0, .ref a0), (2, .int x2), (3, .int x3)]) hx hb dM_run_98 hl (by decide) rfl (fun ls hl => ?_)
              refine lv_aload_n hx hb dM_run_100 rfl (lv_at hl 4 rfl) ?_
              refine lv_iload hx hb dM_run_101 (lv_at hl 2 rfl) ?_
              refine lv_iload hx hb dM_run_103 (lv_at hl 0 rfl) ?_
              refine lv_iload_n hx hb dM_run_105 rfl (lv_at hl 5 rfl) ?_
              refine lv_if_eq (tgt := 118) hx hb dM_run_106 (by decide) (fun c_25 => ?_) (fun c_25 => ?_)
              · replace h := rz_t c_25 h
                exact tM_run_118 F hC ih a0 x2 (mI M a_12 x3.toNatClampNeg) (x3 + 1) x_24 (mI M a_12 x3.toNatClampNeg) a0 _ _ _ _ _ _ h hR (lv_sub hl [4, 5, 2, 1] rfl)
              · replace h := rz_f c_25 h
                refine lv_iload hx hb dM_run_109 (lv_at hl 2 rfl) ?_
                refine lv_if_ne (tgt := 118) hx hb dM_run_111 (by decide) (fun c_26 => ?_) (fun c_26 => ?_)
                · replace h := rz_f c_26 h
                  exact tM_run_118 F hC ih a0 x2 (mI M a_12 x3.toNatClampNeg) (x3 + 1) x_24 (mI M a_12 x3.toNatClampNeg) a0 _ _ _ _ _ _ h hR (lv_sub hl [4, 5, 2, 1] rfl)
                · replace h := rz_t c_26 h
                  refine lv_iconst (v := 1) hx hb dM_run_114 (by decide) ?_
                  refine lv_goto (tgt := 119) hx hb dM_run_115 (by decide) ?_
                  exact tM_run_119 F hC ih a0 x2 (mI M a_12 x3.toNatClampNeg) (x3 + 1) 1 x_24 (mI M a_12 x3.toNatClampNeg) a0 _ _ _ _ _ _ h hR (lv_sub hl [4, 5, 2, 1] rfl)
            · cases ev.symm.trans ee2
          · rcases h with ⟨v2, ev2, -⟩ | ⟨e2, ee2, h⟩
            · cases ex.symm.trans ev2
            · cases ex.symm.trans ee2
              cases h
              exact rt_x hlk hex hR g1 g2 g3
      · replace h := rz_t c_16 h
        refine lv_aload_n hx hb dM_run_53 rfl (lv_at hl 3 rfl) ?_
        refine rg_getP hx hb hown hK hR hk_M 36 (by decide) kf_M_51 rfl c_1 dM_run_54 ?_
        refine lv_iload hx hb dM_run_57 (lv_at hl 1 rfl) ?_
        refine lv_aload_n hx hb dM_run_59 rfl (lv_at hl 3 rfl) ?_
        refine rg_getP hx hb hown hK hR hk_M 9 (by decide) kf_M_24 rfl c_1 dM_run_60 ?_
        refine lv_iload hx hb dM_run_63 (lv_at hl 1 rfl) ?_
        obtain ⟨a_27, e_28, h⟩ := rz_d h
        rw [e_28]
        obtain ⟨c_29, h⟩ := rz_chk h
        obtain ⟨c_30, h⟩ := rz_chk h
        refine rg_zald hx hb hK hR c_29 c_30 dM_run_65 ?_
        refine lv_if_eq (tgt := 73) hx hb dM_run_66 (by decide) (fun c_31 => ?_) (fun c_31 => ?_)
        · replace h := rz_t c_31 h
          refine lv_bipush (v := (-8)) hx hb dM_run_73 (by decide) ?_
          exact tM_run_75 F hC ih a0 x2 (mI M a_12 x3.toNatClampNeg) (x3 + 1) ((-8)) (mI M a_12 x3.toNatClampNeg) (mP M a0 36) _ _ _ _ _ _ h hR (lv_sub hl [3, 4, 1, 0] rfl)
        · replace h := rz_f c_31 h
          refine lv_iconst (v := 0) hx hb dM_run_69 (by decide) ?_
          refine lv_goto (tgt := 75) hx hb dM_run_70 (by decide) ?_
          exact tM_run_75 F hC ih a0 x2 (mI M a_12 x3.toNatClampNeg) (x3 + 1) 0 (mI M a_12 x3.toNatClampNeg) (mP M a0 36) _ _ _ _ _ _ h hR (lv_sub hl [3, 4, 1, 0] rfl)
def fM_run_0 (n d : Nat) (C : Cx) (a0 : Nat) (x1 : Int32) (x2 : Int32) (M : Mem) : Rz := if mK M a0 = 5 then (rzM (setI M a0 35 x1) fun M_2 => (rzM (setI M_2 a0 38 0) fun M_5 => (rzM (setI M_5 a0 40 0) fun M_8 => (fM_run_17 n d C n a0 x2 0 M_8)))) else none
set_option maxRecDepth 100000 in
set_option maxHeartbeats 4000000 in
theorem tM_run_0 {n : Nat} (F : FX p s m meth c G R M0 d "HeadCountModel" bM_run 8 (some .boolean)) (hC : CBs l G d C) : ∀ (a0 : Nat) (x1 : Int32) (x2 : Int32) (M : Mem) (H : Heap) (locs : List Loc) (cells slots : Nat) (ls : Array Slot), fM_run_0 n d C a0 x1 x2 M = some (r, M') → RL G M0 M H locs cells slots → lv_has ls 8 [(0, .ref a0), (1, .int x1), (2, .int x2)] → W p l e R s m args below meth c H locs cells slots (CQ G below s M0 r M') (F0 m 0 ls []) := by
  obtain ⟨hx, hb, hml, hown, hrt, hlk, hex, hK, hRm⟩ := id F
  intro a0 x1 x2 M H locs cells slots ls h hR hl
  unfold fM_run_0 at h
  refine lv_aload_n hx hb dM_run_0 rfl (lv_at hl 0 rfl) ?_
  refine lv_iload_n hx hb dM_run_1 rfl (lv_at hl 1 rfl) ?_
  obtain ⟨c_1, h⟩ := rz_chk h
  obtain ⟨M_2, q_3, h⟩ := rz_m h
  refine rg_putI hx hb hown hK hR hk_M 35 (by decide) kf_M_216 rfl rfl (ty := .int) (by decide +kernel) (Or.inl rfl) rfl c_1 dM_run_2 (fun H locs hR => ?_)
  rw [← q_3] at hR
  have c_4 : mK M_2 a0 = 5 := by rw [q_3]; exact c_1
  refine lv_aload_n hx hb dM_run_5 rfl (lv_at hl 0 rfl) ?_
  refine lv_iconst (v := 0) hx hb dM_run_6 (by decide) ?_
  obtain ⟨M_5, q_6, h⟩ := rz_m h
  refine rg_putI hx hb hown hK hR hk_M 38 (by decide) kf_M_206 rfl rfl (ty := .int) (by decide +kernel) (Or.inl rfl) rfl c_4 dM_run_7 (fun H locs hR => ?_)
  rw [← q_6] at hR
  have c_7 : mK M_5 a0 = 5 := by rw [q_6]; exact c_4
  refine lv_aload_n hx hb dM_run_10 rfl (lv_at hl 0 rfl) ?_
  refine lv_iconst (v := 0) hx hb dM_run_11 (by decide) ?_
  obtain ⟨M_8, q_9, h⟩ := rz_m h
  refine rg_putI hx hb hown hK hR hk_M 40 (by decide) kf_M_222 rfl rfl (ty := .int) (by decide +kernel) (Or.inl rfl) rfl c_7 dM_run_12 (fun H locs hR => ?_)
  rw [← q_9] at hR
  have c_10 : mK M_8 a0 = 5 := by rw [q_9]; exact c_7
  refine lv_iconst (v := 0) hx hb dM_run_15 (by decide) ?_
  refine lv_istore_n (lv' := [(3, .int 0), (0, .ref a0), (1, .int x1), (2, .int x2)]) hx hb dM_run_16 rfl hl (by decide) rfl (fun ls hl => ?_)
  exact tM_run_17 F hC n a0 x2 0 _ _ _ _ _ _ h hR (lv_sub hl [1, 3, 0] rfl)
set_option maxRecDepth 100000 in
set_option maxHeartbeats 4000000 in
theorem sM_run {l : Launch} {G : Gx} {n d : Nat} {C : Cx} (hC : CBs l G d C) (a0 : Nat) (x1 : Int32) (x2 : Int32) {M M' : Mem} {r : Option Value ⊕ Nat} (h : fM_run_0 n d C a0 x1 x2 M = some (r, M')) : CB l G (d + 1) yM_run [.ref a0, .int x1, .int x2] M r M' := by
  intro p e R s m below meth c hx hn hm hc hlk hK hR hcap hS hU hfr hlo hrc hrs
  obtain ⟨hb, hml, hrt, hex, hown⟩ := fx_of hn hm hc (hK.w mfM_run.2.2.1 rfl #[])
  have F : FX p s m meth c G R M d "HeadCountModel" bM_run 8 (some .boolean) := ⟨hx, hb, hml, hown, hrt, hlk, hex, hK, hfr, hlo, by rw [← hcap]; exact hrc, hrs⟩
  rw [hml]
  have hl := lv_entry ([.ref a0, .int x1, .int x2]) (n := 8) (by simp [lg_sl, cat_rf, cat_i, cat_a, cat_l, cat_n])
  rw [lg_entry_eq]
  generalize (lg_sl ([.ref a0, .int x1, .int x2]) ++ List.replicate (8 - (lg_sl ([.ref a0, .int x1, .int x2])).length) Slot.unset).toArray = ls at hl ⊢
  have hl : lv_has ls 8 [(0, .ref a0), (1, .int x1), (2, .int x2)] := by simpa [lv_args, cat_rf, cat_i, cat_a, cat_l, cat_n] using hl
  exact tM_run_0 F hC a0 x1 x2 _ _ _ _ _ _ h (RL.start hR hcap hS hU) (lv_sub hl [0, 1, 2] rfl)
def fM_pop_0 (n d : Nat) (C : Cx) (a0 : Nat) (M : Mem) : Rz := if mK M a0 = 5 then (rzM (setI M a0 38 ((mI M a0 38) - 1)) fun M_2 => (rzD (mP M_2 a0 39) fun a_5 => (if mK M_2 a_5 = 21 then (if inA (mI M_2 a0 38) (mL M_2 a_5) then (some (.inl (some (.int (mI M_2 a_5 (mI M_2 a0 38).toNatClampNeg))), M_2)) else none) else none))) else none
set_option maxRecDepth 100000 in
set_option maxHeartbeats 4000000 in
theorem tM_pop_0 {n : Nat} (F : FX p s m meth c G R M0 d "HeadCountModel" bM_pop 1 (some .int)) (hC : CBs l G d C) : ∀ (a0 : Nat) (M : Mem) (H : Heap) (locs : List Loc) (cells slots : Nat) (ls : Array Slot), fM_pop_0 n d C a0 M = some (r, M') → RL G M0 M H locs cells slots → lv_has ls 1 [(0, .ref a0)] → W p l e R s m args below meth c H locs cells slots (CQ G below s M0 r M') (F0 m 0 ls []) := by
  obtain ⟨hx, hb, hml, hown, hrt, hlk, hex, hK, hRm⟩ := id F
  intro a0 M H locs cells slots ls h hR hl
  unfold fM_pop_0 at h
  refine lv_aload_n hx hb dM_pop_0 rfl (lv_at hl 0 rfl) ?_
  refine lv_dup hx hb dM_pop_1 rfl ?_
  obtain ⟨c_1, h⟩ := rz_chk h
  refine rg_getI hx hb hown hK hR hk_M 38 (by decide) kf_M_206 rfl c_1 dM_pop_2 ?_
  refine lv_iconst (v := 1) hx hb dM_pop_5 (by decide) ?_
  refine lv_isub hx hb dM_pop_6 ?_
  obtain ⟨M_2, q_3, h⟩ := rz_m h
  refine rg_putI hx hb hown hK hR hk_M 38 (by decide) kf_M_206 rfl rfl (ty := .int) (by decide +kernel) (Or.inl rfl) rfl c_1 dM_pop_7 (fun H locs hR => ?_)
  rw [← q_3] at hR
  have c_4 : mK M_2 a0 = 5 := by rw [q_3]; exact c_1
  refine lv_aload_n hx hb dM_pop_10 rfl (lv_at hl 0 rfl) ?_
  refine rg_getP hx hb hown hK hR hk_M 39 (by decide) kf_M_57 rfl c_4 dM_pop_11 ?_
  refine lv_aload_n hx hb dM_pop_14 rfl (lv_at hl 0 rfl) ?_
  refine rg_getI hx hb hown hK hR hk_M 38 (by decide) kf_M_206 rfl c_4 dM_pop_15 ?_
  obtain ⟨a_5, e_6, h⟩ := rz_d h
  rw [e_6]
  obtain ⟨c_7, h⟩ := rz_chk h
  obtain ⟨c_8, h⟩ := rz_chk h
  refine rg_iald hx hb hK hR c_7 c_8 dM_pop_18 ?_
  cases h
  exact rt_i hx hb hlk hrt (Or.inl rfl) rfl hR dM_pop_19
set_option maxRecDepth 100000 in
set_option maxHeartbeats 4000000 in
theorem sM_pop {l : Launch} {G : Gx} {n d : Nat} {C : Cx} (hC : CBs l G d C) (a0 : Nat) {M M' : Mem} {r : Option Value ⊕ Nat} (h : fM_pop_0 n d C a0 M = some (r, M')) : CB l G (d + 1) yM_pop [.ref a0] M r M' := by
  intro p e R s m below meth c hx hn hm hc hlk hK hR hcap hS hU hfr hlo hrc hrs
  obtain ⟨hb, hml, hrt, hex, hown⟩ := fx_of hn hm hc (hK.w mfM_pop.2.2.1 rfl #[])
  have F : FX p s m meth c G R M d "HeadCountModel" bM_pop 1 (some .int) := ⟨hx, hb, hml, hown, hrt, hlk, hex, hK, hfr, hlo, by rw [← hcap]; exact hrc, hrs⟩
  rw [hml]
  have hl := lv_entry ([.ref a0]) (n := 1) (by simp [lg_sl, cat_rf, cat_i, cat_a, cat_l, cat_n])
  rw [lg_entry_eq]
  generalize (lg_sl ([.ref a0]) ++ List.replicate (1 - (lg_sl ([.ref a0])).length) Slot.unset).toArray = ls at hl ⊢
  have hl : lv_has ls 1 [(0, .ref a0)] := by simpa [lv_args, cat_rf, cat_i, cat_a, cat_l, cat_n] using hl
  exact tM_pop_0 F hC a0 _ _ _ _ _ _ h (RL.start hR hcap hS hU) (lv_sub hl [0] rfl)
def fM_ends_92 (n d : Nat) (C : Cx) (xs0 : Int32) (as1 : Nat) (M : Mem) : Rz := if mK M as1 = 5 then (rzC (C 100 [.ref as1, .int xs0] M) fun v_2 M_3 => (rzV v_2 (if fits .boolean (.int 1) = true then (some (.inl (some (.int 1)), M_3)) else none))) else none
set_option maxRecDepth 100000 in
set_option maxHeartbeats 4000000 in
theorem tM_ends_92 {n : Nat} (F : FX p s m meth c G R M0 d "HeadCountModel" bM_ends 5 (some .boolean)) (hC : CBs l G d C) : ∀ (xs0 : Int32) (as1 : Nat) (M : Mem) (H : Heap) (locs : List Loc) (cells slots : Nat) (ls : Array Slot), fM_ends_92 n d C xs0 as1 M = some (r, M') → RL G M0 M H locs cells slots → lv_has ls 5 [] → W p l e R s m args below meth c H locs cells slots (CQ G below s M0 r M') (F0 m 92 ls [.int xs0, .ref as1]) := by
  obtain ⟨hx, hb, hml, hown, hrt, hlk, hex, hK, hRm⟩ := id F
  intro xs0 as1 M H locs cells slots ls h hR hl
  unfold fM_ends_92 at h
  obtain ⟨c_1, h⟩ := rz_chk h
  obtain ⟨q_5, M_3, h_4, h⟩ := rz_c h
  refine rc_V (rest := []) (As := [.int xs0]) hx hb (hl.1.trans hml.symm) hown hK hR hRm mfM_put kl_M_219 hk_M rfl rfl c_1 (by simp [cat_rf, cat_i, cat_a, cat_l, cat_n]) (hC 100 _ _ _ _ h_4) dM_ends_92 (fun v1 H locs cells slots ev hR => ?_) (fun x1 q1 ce1 H locs cells slots ex hR g1 g2 g3 => ?_)
  · rcases h with ⟨v_2, ev2, h⟩ | ⟨e2, ee2, -⟩
    · cases ev.symm.trans ev2
      replace h := rz_v h
      obtain ⟨rfl, h⟩ := h
      dsimp only [Option.toList, List.cons_append, List.nil_append]
      refine lv_iconst (v := 1) hx hb dM_ends_95 (by decide) ?_
      obtain ⟨c_6, h⟩ := rz_chk h
      cases h
      exact rt_i hx hb hlk hrt (Or.inr (Or.inr rfl)) c_6 hR dM_ends_96
    · cases ev.symm.trans ee2
  · rcases h with ⟨v2, ev2, -⟩ | ⟨e2, ee2, h⟩
    · cases ex.symm.trans ev2
    · cases ex.symm.trans ee2
      cases h
      exact rt_x hlk hex hR g1 g2 g3
def fM_ends_68 (n d : Nat) (C : Cx) (a0 : Nat) (x1 : Int32) (x2 : Int32) (x4 : Int32) (M : Mem) : Rz := if x4 = 0 then (if mK M a0 = 5 then (rzD (mP M a0 8) fun a_3 => (if mK M a_3 = 23 then (if inA x1 (mL M a_3) then (if (mI M a_3 x1.toNatClampNeg) = 0 then (fM_ends_92 n d C 0 a0 M) else (fM_ends_92 n d C 1 a0 M)) else none) else none)) else none) else (fM_ends_92 n d C x2 a0 M)
set_option maxRecDepth 100000 in
set_option maxHeartbeats 4000000 in
theorem tM_ends_68 {n : Nat} (F : FX p s m meth c G R M0 d "HeadCountModel" bM_ends 5 (some .boolean)) (hC : CBs l G d C) : ∀ (a0 : Nat) (x1 : Int32) (x2 : Int32) (x4 : Int32) (M : Mem) (H : Heap) (locs : List Loc) (cells slots : Nat) (ls : Array Slot), fM_ends_68 n d C a0 x1 x2 x4 M = some (r, M') → RL G M0 M H locs cells slots → lv_has ls 5 [(0, .ref a0), (1, .int x1), (2, .int x2), (4, .int x4)] → W p l e R s m args below meth c H locs cells slots (CQ G below s M0 r M') (F0 m 68 ls []) := by
  obtain ⟨hx, hb, hml, hown, hrt, hlk, hex, hK, hRm⟩ := id F
  intro a0 x1 x2 x4 M H locs cells slots ls h hR hl
  unfold fM_ends_68 at h
  refine lv_aload_n hx hb dM_ends_68 rfl (lv_at hl 0 rfl) ?_
  refine lv_iload hx hb dM_ends_69 (lv_at hl 3 rfl) ?_
  refine lv_if_eq (tgt := 78) hx hb dM_ends_71 (by decide) (fun c_1 => ?_) (fun c_1 => ?_)
  · replace h := rz_t c_1 h
    refine lv_aload_n hx hb dM_ends_78 rfl (lv_at hl 0 rfl) ?_
    obtain ⟨c_2, h⟩ := rz_chk h
    refine rg_getP hx hb hown hK hR hk_M 8 (by decide) kf_M_20 rfl c_2 dM_ends_79 ?_
    refine lv_iload_n hx hb dM_ends_82 rfl (lv_at hl 1 rfl) ?_
    obtain ⟨a_3, e_4, h⟩ := rz_d h
    rw [e_4]
    obtain ⟨c_5, h⟩ := rz_chk h
    obtain ⟨c_6, h⟩ := rz_chk h
    refine rg_zald hx hb hK hR c_5 c_6 dM_ends_83 ?_
    refine lv_if_eq (tgt := 91) hx hb dM_ends_84 (by decide) (fun c_7 => ?_) (fun c_7 => ?_)
    · replace h := rz_t c_7 h
      refine lv_iconst (v := 0) hx hb dM_ends_91 (by decide) ?_
      exact tM_ends_92 F hC 0 a0 _ _ _ _ _ _ h hR (lv_sub hl [] rfl)
    · replace h := rz_f c_7 h
      refine lv_iconst (v := 1) hx hb dM_ends_87 (by decide) ?_
      refine lv_goto (tgt := 92) hx hb dM_ends_88 (by decide) ?_
      exact tM_ends_92 F hC 1 a0 _ _ _ _ _ _ h hR (lv_sub hl [] rfl)
  · replace h := rz_f c_1 h
    refine lv_iload_n hx hb dM_ends_74 rfl (lv_at hl 2 rfl) ?_
    refine lv_goto (tgt := 92) hx hb dM_ends_75 (by decide) ?_
    exact tM_ends_92 F hC x2 a0 _ _ _ _ _ _ h hR (lv_sub hl [] rfl)
def fM_ends_45 (n d : Nat) (C : Cx) (a0 : Nat) (x1 : Int32) (x2 : Int32) (xs0 : Int32) (M : Mem) : Rz := if xs0 = 0 then (if mK M a0 = 5 then (rzD (mP M a0 36) fun a_3 => (if mK M a_3 = 21 then (if inA x1 (mL M a_3) then (rzC (C 99 [.ref a0, .int x1] M) fun v_7 M_8 => (rzI v_7 fun x_11 => (if x_11 ≤ (mI M a_3 x1.toNatClampNeg) then (fM_ends_68 n d C a0 x1 x2 xs0 M_8) else (if fits .boolean (.int 0) = true then (some (.inl (some (.int 0)), M_8)) else none)))) else none) else none)) else none) else (fM_ends_68 n d C a0 x1 x2 xs0 M)
set_option maxRecDepth 100000 in
set_option maxHeartbeats 4000000 in
theorem tM_ends_45 {n : Nat} (F : FX p s m meth c G R M0 d "HeadCountModel" bM_ends 5 (some .boolean)) (hC : CBs l G d C) : ∀ (a0 : Nat) (x1 : Int32) (x2 : Int32) (xs0 : Int32) (M : Mem) (H : Heap) (locs : List Loc) (cells slots : Nat) (ls : Array Slot), fM_ends_45 n d C a0 x1 x2 xs0 M = some (r, M') → RL G M0 M H locs cells slots → lv_has ls 5 [(0, .ref a0), (1, .int x1), (2, .int x2)] → W p l e R s m args below meth c H locs cells slots (CQ G below s M0 r M') (F0 m 45 ls [.int xs0]) := by
  obtain ⟨hx, hb, hml, hown, hrt, hlk, hex, hK, hRm⟩ := id F
  intro a0 x1 x2 xs0 M H locs cells slots ls h hR hl
  unfold fM_ends_45 at h
  refine lv_istore (lv' := [(4, .int xs0), (0, .ref a0), (1, .int x1), (2, .int x2)]) hx hb dM_ends_45 hl (by decide) rfl (fun ls hl => ?_)
  refine lv_iload hx hb dM_ends_47 (lv_at hl 0 rfl) ?_
  refine lv_if_ne (tgt := 68) hx hb dM_ends_49 (by decide) (fun c_1 => ?_) (fun c_1 => ?_)
  · replace h := rz_f c_1 h
    exact tM_ends_68 F hC a0 x1 x2 xs0 _ _ _ _ _ _ h hR (lv_sub hl [1, 2, 3, 0] rfl)
  · replace h := rz_t c_1 h
    refine lv_aload_n hx hb dM_ends_52 rfl (lv_at hl 1 rfl) ?_
    obtain ⟨c_2, h⟩ := rz_chk h
    refine rg_getP hx hb hown hK hR hk_M 36 (by decide) kf_M_51 rfl c_2 dM_ends_53 ?_
    refine lv_iload_n hx hb dM_ends_56 rfl (lv_at hl 2 rfl) ?_
    obtain ⟨a_3, e_4, h⟩ := rz_d h
    rw [e_4]
    obtain ⟨c_5, h⟩ := rz_chk h
    obtain ⟨c_6, h⟩ := rz_chk h
    refine rg_iald hx hb hK hR c_5 c_6 dM_ends_57 ?_
    refine lv_aload_n hx hb dM_ends_58 rfl (lv_at hl 1 rfl) ?_
    refine lv_iload_n hx hb dM_ends_59 rfl (lv_at hl 2 rfl) ?_
    obtain ⟨q_10, M_8, h_9, h⟩ := rz_c h
    refine rc_V (rest := [.int (mI M a_3 x1.toNatClampNeg)]) (As := [.int x1]) hx hb (hl.1.trans hml.symm) hown hK hR hRm mfM_lastOf kl_M_225 hk_M rfl rfl c_2 (by simp [cat_rf, cat_i, cat_a, cat_l, cat_n]) (hC 99 _ _ _ _ h_9) dM_ends_60 (fun v1 H locs cells slots ev hR => ?_) (fun x1 q1 ce1 H locs cells slots ex hR g1 g2 g3 => ?_)
    · rcases h with ⟨v_7, ev2, h⟩ | ⟨e2, ee2, -⟩
      · cases ev.symm.trans ev2
        replace h := rz_i h
        obtain ⟨x_11, rfl, h⟩ := h
        dsimp only [Option.toList, List.cons_append, List.nil_append]
        refine lv_icmp_ge (tgt := 68) hx hb dM_ends_63 (by decide) (fun c_12 => ?_) (fun c_12 => ?_)
        · replace h := rz_t c_12 h
          exact tM_ends_68 F hC a0 x1 x2 xs0 _ _ _ _ _ _ h hR (lv_sub hl [1, 2, 3, 0] rfl)
        · replace h := rz_f c_12 h
          refine lv_iconst (v := 0) hx hb dM_ends_66 (by decide) ?_
          obtain ⟨c_13, h⟩ := rz_chk h
          cases h
          exact rt_i hx hb hlk hrt (Or.inr (Or.inr rfl)) c_13 hR dM_ends_67
      · cases ev.symm.trans ee2
    · rcases h with ⟨v2, ev2, -⟩ | ⟨e2, ee2, h⟩
      · cases ex.symm.trans ev2
      · cases ex.symm.trans ee2
        cases h
        exact rt_x hlk hex hR g1 g2 g3
def fM_ends_44 (n d : Nat) (C : Cx) (a0 : Nat) (x1 : Int32) (x2 : Int32) (M : Mem) : Rz := fM_ends_45 n d C a0 x1 x2 0 M
set_option maxRecDepth 100000 in
set_option maxHeartbeats 4000000 in
theorem tM_ends_44 {n : Nat} (F : FX p s m meth c G R M0 d "HeadCountModel" bM_ends 5 (some .boolean)) (hC : CBs l G d C) : ∀ (a0 : Nat) (x1 : Int32) (x2 : Int32) (M : Mem) (H : Heap) (locs : List Loc) (cells slots : Nat) (ls : Array Slot), fM_ends_44 n d C a0 x1 x2 M = some (r, M') → RL G M0 M H locs cells slots → lv_has ls 5 [(0, .ref a0), (1, .int x1), (2, .int x2)] → W p l e R s m args below meth c H locs cells slots (CQ G below s M0 r M') (F0 m 44 ls []) := by
  obtain ⟨hx, hb, hml, hown, hrt, hlk, hex, hK, hRm⟩ := id F
  intro a0 x1 x2 M H locs cells slots ls h hR hl
  unfold fM_ends_44 at h
  refine lv_iconst (v := 0) hx hb dM_ends_44 (by decide) ?_
  exact tM_ends_45 F hC a0 x1 x2 0 _ _ _ _ _ _ h hR (lv_sub hl [0, 1, 2] rfl)
def fM_ends_37 (n d : Nat) (C : Cx) (a0 : Nat) (x1 : Int32) (x2 : Int32) (xs0 : Int32) (xs1 : Int32) (M : Mem) : Rz := if xs1 = xs0 then (fM_ends_45 n d C a0 x1 x2 1 M) else (fM_ends_44 n d C a0 x1 x2 M)
set_option maxRecDepth 100000 in
set_option maxHeartbeats 4000000 in
theorem tM_ends_37 {n : Nat} (F : FX p s m meth c G R M0 d "HeadCountModel" bM_ends 5 (some .boolean)) (hC : CBs l G d C) : ∀ (a0 : Nat) (x1 : Int32) (x2 : Int32) (xs0 : Int32) (xs1 : Int32) (M : Mem) (H : Heap) (locs : List Loc) (cells slots : Nat) (ls : Array Slot), fM_ends_37 n d C a0 x1 x2 xs0 xs1 M = some (r, M') → RL G M0 M H locs cells slots → lv_has ls 5 [(0, .ref a0), (1, .int x1), (2, .int x2)] → W p l e R s m args below meth c H locs cells slots (CQ G below s M0 r M') (F0 m 37 ls [.int xs0, .int xs1]) := by
  obtain ⟨hx, hb, hml, hown, hrt, hlk, hex, hK, hRm⟩ := id F
  intro a0 x1 x2 xs0 xs1 M H locs cells slots ls h hR hl
  unfold fM_ends_37 at h
  refine lv_icmp_ne (tgt := 44) hx hb dM_ends_37 (by decide) (fun c_1 => ?_) (fun c_1 => ?_)
  · replace h := rz_f c_1 h
    exact tM_ends_44 F hC a0 x1 x2 _ _ _ _ _ _ h hR (lv_sub hl [0, 1, 2] rfl)
  · replace h := rz_t c_1 h
    refine lv_iconst (v := 1) hx hb dM_ends_40 (by decide) ?_
    refine lv_goto (tgt := 45) hx hb dM_ends_41 (by decide) ?_
    exact tM_ends_45 F hC a0 x1 x2 1 _ _ _ _ _ _ h hR (lv_sub hl [0, 1, 2] rfl)
def fM_ends_14 (n d : Nat) (C : Cx) (a0 : Nat) (x1 : Int32) (x2 : Int32) (x3 : Int32) (xs0 : Int32) (xs1 : Int32) (as2 : Nat) (M : Mem) : Rz := if mK M as2 = 5 then (rzM (setI M as2 40 (xs1 + xs0)) fun M_2 => (if x3 = 0 then (if mK M_2 a0 = 5 then (rzD (mP M_2 a0 8) fun a_7 => (if mK M_2 a_7 = 23 then (if inA x1 (mL M_2 a_7) then (if (mI M_2 a_7 x1.toNatClampNeg) = 0 then (fM_ends_37 n d C a0 x1 x2 1 x2 M_2) else (fM_ends_37 n d C a0 x1 x2 0 x2 M_2)) else none) else none)) else none) else (fM_ends_44 n d C a0 x1 x2 M_2))) else none
set_option maxRecDepth 100000 in
set_option maxHeartbeats 4000000 in
theorem tM_ends_14 {n : Nat} (F : FX p s m meth c G R M0 d "HeadCountModel" bM_ends 5 (some .boolean)) (hC : CBs l G d C) : ∀ (a0 : Nat) (x1 : Int32) (x2 : Int32) (x3 : Int32) (xs0 : Int32) (xs1 : Int32) (as2 : Nat) (M : Mem) (H : Heap) (locs : List Loc) (cells slots : Nat) (ls : Array Slot), fM_ends_14 n d C a0 x1 x2 x3 xs0 xs1 as2 M = some (r, M') → RL G M0 M H locs cells slots → lv_has ls 5 [(0, .ref a0), (1, .int x1), (2, .int x2), (3, .int x3)] → W p l e R s m args below meth c H locs cells slots (CQ G below s M0 r M') (F0 m 14 ls [.int xs0, .int xs1, .ref as2]) := by
  obtain ⟨hx, hb, hml, hown, hrt, hlk, hex, hK, hRm⟩ := id F
  intro a0 x1 x2 x3 xs0 xs1 as2 M H locs cells slots ls h hR hl
  unfold fM_ends_14 at h
  refine lv_iadd hx hb dM_ends_14 ?_
  obtain ⟨c_1, h⟩ := rz_chk h
  obtain ⟨M_2, q_3, h⟩ := rz_m h
  refine rg_putI hx hb hown hK hR hk_M 40 (by decide) kf_M_222 rfl rfl (ty := .int) (by decide +kernel) (Or.inl rfl) rfl c_1 dM_ends_15 (fun H locs hR => ?_)
  rw [← q_3] at hR
  have c_4 : mK M_2 as2 = 5 := by rw [q_3]; exact c_1
  refine lv_iload_n hx hb dM_ends_18 rfl (lv_at hl 3 rfl) ?_
  refine lv_if_ne (tgt := 44) hx hb dM_ends_19 (by decide) (fun c_5 => ?_) (fun c_5 => ?_)
  · replace h := rz_f c_5 h
    exact tM_ends_44 F hC a0 x1 x2 _ _ _ _ _ _ h hR (lv_sub hl [0, 1, 2] rfl)
  · replace h := rz_t c_5 h
    refine lv_iload_n hx hb dM_ends_22 rfl (lv_at hl 2 rfl) ?_
    refine lv_aload_n hx hb dM_ends_23 rfl (lv_at hl 0 rfl) ?_
    obtain ⟨c_6, h⟩ := rz_chk h
    refine rg_getP hx hb hown hK hR hk_M 8 (by decide) kf_M_20 rfl c_6 dM_ends_24 ?_
    refine lv_iload_n hx hb dM_ends_27 rfl (lv_at hl 1 rfl) ?_
    obtain ⟨a_7, e_8, h⟩ := rz_d h
    rw [e_8]
    obtain ⟨c_9, h⟩ := rz_chk h
    obtain ⟨c_10, h⟩ := rz_chk h
    refine rg_zald hx hb hK hR c_9 c_10 dM_ends_28 ?_
    refine lv_if_eq (tgt := 36) hx hb dM_ends_29 (by decide) (fun c_11 => ?_) (fun c_11 => ?_)
    · replace h := rz_t c_11 h
      refine lv_iconst (v := 1) hx hb dM_ends_36 (by decide) ?_
      exact tM_ends_37 F hC a0 x1 x2 1 x2 _ _ _ _ _ _ h hR (lv_sub hl [0, 1, 2] rfl)
    · replace h := rz_f c_11 h
      refine lv_iconst (v := 0) hx hb dM_ends_32 (by decide) ?_
      refine lv_goto (tgt := 37) hx hb dM_ends_33 (by decide) ?_
      exact tM_ends_37 F hC a0 x1 x2 0 x2 _ _ _ _ _ _ h hR (lv_sub hl [0, 1, 2] rfl)
def fM_ends_0 (n d : Nat) (C : Cx) (a0 : Nat) (x1 : Int32) (x2 : Int32) (x3 : Int32) (M : Mem) : Rz := if mK M a0 = 5 then (if x3 = 0 then (fM_ends_14 n d C a0 x1 x2 x3 0 (mI M a0 40) a0 M) else (fM_ends_14 n d C a0 x1 x2 x3 x2 (mI M a0 40) a0 M)) else none
set_option maxRecDepth 100000 in
set_option maxHeartbeats 4000000 in
theorem tM_ends_0 {n : Nat} (F : FX p s m meth c G R M0 d "HeadCountModel" bM_ends 5 (some .boolean)) (hC : CBs l G d C) : ∀ (a0 : Nat) (x1 : Int32) (x2 : Int32) (x3 : Int32) (M : Mem) (H : Heap) (locs : List Loc) (cells slots : Nat) (ls : Array Slot), fM_ends_0 n d C a0 x1 x2 x3 M = some (r, M') → RL G M0 M H locs cells slots → lv_has ls 5 [(0, .ref a0), (1, .int x1), (2, .int x2), (3, .int x3)] → W p l e R s m args below meth c H locs cells slots (CQ G below s M0 r M') (F0 m 0 ls []) := by
  obtain ⟨hx, hb, hml, hown, hrt, hlk, hex, hK, hRm⟩ := id F
  intro a0 x1 x2 x3 M H locs cells slots ls h hR hl
  unfold fM_ends_0 at h
  refine lv_aload_n hx hb dM_ends_0 rfl (lv_at hl 0 rfl) ?_
  refine lv_dup hx hb dM_ends_1 rfl ?_
  obtain ⟨c_1, h⟩ := rz_chk h
  refine rg_getI hx hb hown hK hR hk_M 40 (by decide) kf_M_222 rfl c_1 dM_ends_2 ?_
  refine lv_iload_n hx hb dM_ends_5 rfl (lv_at hl 3 rfl) ?_
  refine lv_if_eq (tgt := 13) hx hb dM_ends_6 (by decide) (fun c_2 => ?_) (fun c_2 => ?_)
  · replace h := rz_t c_2 h
    refine lv_iconst (v := 0) hx hb dM_ends_13 (by decide) ?_
    exact tM_ends_14 F hC a0 x1 x2 x3 0 (mI M a0 40) a0 _ _ _ _ _ _ h hR (lv_sub hl [0, 1, 2, 3] rfl)
  · replace h := rz_f c_2 h
    refine lv_iload_n hx hb dM_ends_9 rfl (lv_at hl 2 rfl) ?_
    refine lv_goto (tgt := 14) hx hb dM_ends_10 (by decide) ?_
    exact tM_ends_14 F hC a0 x1 x2 x3 x2 (mI M a0 40) a0 _ _ _ _ _ _ h hR (lv_sub hl [0, 1, 2, 3] rfl)
set_option maxRecDepth 100000 in
set_option maxHeartbeats 4000000 in
theorem sM_ends {l : Launch} {G : Gx} {n d : Nat} {C : Cx} (hC : CBs l G d C) (a0 : Nat) (x1 : Int32) (x2 : Int32) (x3 : Int32) {M M' : Mem} {r : Option Value ⊕ Nat} (h : fM_ends_0 n d C a0 x1 x2 x3 M = some (r, M')) : CB l G (d + 1) yM_ends [.ref a0, .int x1, .int x2, .int x3] M r M' := by
  intro p e R s m below meth c hx hn hm hc hlk hK hR hcap hS hU hfr hlo hrc hrs
  obtain ⟨hb, hml, hrt, hex, hown⟩ := fx_of hn hm hc (hK.w mfM_ends.2.2.1 rfl #[])
  have F : FX p s m meth c G R M d "HeadCountModel" bM_ends 5 (some .boolean) := ⟨hx, hb, hml, hown, hrt, hlk, hex, hK, hfr, hlo, by rw [← hcap]; exact hrc, hrs⟩
  rw [hml]
  have hl := lv_entry ([.ref a0, .int x1, .int x2, .int x3]) (n := 5) (by simp [lg_sl, cat_rf, cat_i, cat_a, cat_l, cat_n])
  rw [lg_entry_eq]
  generalize (lg_sl ([.ref a0, .int x1, .int x2, .int x3]) ++ List.replicate (5 - (lg_sl ([.ref a0, .int x1, .int x2, .int x3])).length) Slot.unset).toArray = ls at hl ⊢
  have hl : lv_has ls 5 [(0, .ref a0), (1, .int x1), (2, .int x2), (3, .int x3)] := by simpa [lv_args, cat_rf, cat_i, cat_a, cat_l, cat_n] using hl
  exact tM_ends_0 F hC a0 x1 x2 x3 _ _ _ _ _ _ h (RL.start hR hcap hS hU) (lv_sub hl [0, 1, 2, 3] rfl)
def fM_lastOf_22 (n d : Nat) (C : Cx) (xs0 : Int32) (M : Mem) : Rz := some (.inl (some (.int xs0)), M)
set_option maxRecDepth 100000 in
set_option maxHeartbeats 4000000 in
theorem tM_lastOf_22 {n : Nat} (F : FX p s m meth c G R M0 d "HeadCountModel" bM_lastOf 2 (some .int)) (hC : CBs l G d C) : ∀ (xs0 : Int32) (M : Mem) (H : Heap) (locs : List Loc) (cells slots : Nat) (ls : Array Slot), fM_lastOf_22 n d C xs0 M = some (r, M') → RL G M0 M H locs cells slots → lv_has ls 2 [] → W p l e R s m args below meth c H locs cells slots (CQ G below s M0 r M') (F0 m 22 ls [.int xs0]) := by
  obtain ⟨hx, hb, hml, hown, hrt, hlk, hex, hK, hRm⟩ := id F
  intro xs0 M H locs cells slots ls h hR hl
  unfold fM_lastOf_22 at h
  cases h
  exact rt_i hx hb hlk hrt (Or.inl rfl) rfl hR dM_lastOf_22
def fM_lastOf_0 (n d : Nat) (C : Cx) (a0 : Nat) (x1 : Int32) (M : Mem) : Rz := if mK M a0 = 5 then (rzD (mP M a0 9) fun a_2 => (if mK M a_2 = 23 then (if inA x1 (mL M a_2) then (if (mI M a_2 x1.toNatClampNeg) = 0 then (fM_lastOf_22 n d C 8 M) else (fM_lastOf_22 n d C ((1 <<< ((mI M a0 35) &&& 31)) - 1) M)) else none) else none)) else none
set_option maxRecDepth 100000 in
set_option maxHeartbeats 4000000 in
theorem tM_lastOf_0 {n : Nat} (F : FX p s m meth c G R M0 d "HeadCountModel" bM_lastOf 2 (some .int)) (hC : CBs l G d C) : ∀ (a0 : Nat) (x1 : Int32) (M : Mem) (H : Heap) (locs : List Loc) (cells slots : Nat) (ls : Array Slot), fM_lastOf_0 n d C a0 x1 M = some (r, M') → RL G M0 M H locs cells slots → lv_has ls 2 [(0, .ref a0), (1, .int x1)] → W p l e R s m args below meth c H locs cells slots (CQ G below s M0 r M') (F0 m 0 ls []) := by
  obtain ⟨hx, hb, hml, hown, hrt, hlk, hex, hK, hRm⟩ := id F
  intro a0 x1 M H locs cells slots ls h hR hl
  unfold fM_lastOf_0 at h
  refine lv_aload_n hx hb dM_lastOf_0 rfl (lv_at hl 0 rfl) ?_
  obtain ⟨c_1, h⟩ := rz_chk h
  refine rg_getP hx hb hown hK hR hk_M 9 (by decide) kf_M_24 rfl c_1 dM_lastOf_1 ?_
  refine lv_iload_n hx hb dM_lastOf_4 rfl (lv_at hl 1 rfl) ?_
  obtain ⟨a_2, e_3, h⟩ := rz_d h
  rw [e_3]
  obtain ⟨c_4, h⟩ := rz_chk h
  obtain ⟨c_5, h⟩ := rz_chk h
  refine rg_zald hx hb hK hR c_4 c_5 dM_lastOf_5 ?_
  refine lv_if_eq (tgt := 20) hx hb dM_lastOf_6 (by decide) (fun c_6 => ?_) (fun c_6 => ?_)
  · replace h := rz_t c_6 h
    refine lv_bipush (v := 8) hx hb dM_lastOf_20 (by decide) ?_
    exact tM_lastOf_22 F hC 8 _ _ _ _ _ _ h hR (lv_sub hl [] rfl)
  · replace h := rz_f c_6 h
    refine lv_iconst (v := 1) hx hb dM_lastOf_9 (by decide) ?_
    refine lv_aload_n hx hb dM_lastOf_10 rfl (lv_at hl 0 rfl) ?_
    refine rg_getI hx hb hown hK hR hk_M 35 (by decide) kf_M_216 rfl c_1 dM_lastOf_11 ?_
    refine lv_ishl hx hb dM_lastOf_14 ?_
    refine lv_iconst (v := 1) hx hb dM_lastOf_15 (by decide) ?_
    refine lv_isub hx hb dM_lastOf_16 ?_
    refine lv_goto (tgt := 22) hx hb dM_lastOf_17 (by decide) ?_
    exact tM_lastOf_22 F hC ((1 <<< ((mI M a0 35) &&& 31)) - 1) _ _ _ _ _ _ h hR (lv_sub hl [] rfl)
set_option maxRecDepth 100000 in
set_option maxHeartbeats 4000000 in
theorem sM_lastOf {l : Launch} {G : Gx} {n d : Nat} {C : Cx} (hC : CBs l G d C) (a0 : Nat) (x1 : Int32) {M M' : Mem} {r : Option Value ⊕ Nat} (h : fM_lastOf_0 n d C a0 x1 M = some (r, M')) : CB l G (d + 1) yM_lastOf [.ref a0, .int x1] M r M' := by
  intro p e R s m below meth c hx hn hm hc hlk hK hR hcap hS hU hfr hlo hrc hrs
  obtain ⟨hb, hml, hrt, hex, hown⟩ := fx_of hn hm hc (hK.w mfM_lastOf.2.2.1 rfl #[])
  have F : FX p s m meth c G R M d "HeadCountModel" bM_lastOf 2 (some .int) := ⟨hx, hb, hml, hown, hrt, hlk, hex, hK, hfr, hlo, by rw [← hcap]; exact hrc, hrs⟩
  rw [hml]
  have hl := lv_entry ([.ref a0, .int x1]) (n := 2) (by simp [lg_sl, cat_rf, cat_i, cat_a, cat_l, cat_n])
  rw [lg_entry_eq]
  generalize (lg_sl ([.ref a0, .int x1]) ++ List.replicate (2 - (lg_sl ([.ref a0, .int x1])).length) Slot.unset).toArray = ls at hl ⊢
  have hl : lv_has ls 2 [(0, .ref a0), (1, .int x1)] := by simpa [lv_args, cat_rf, cat_i, cat_a, cat_l, cat_n] using hl
  exact tM_lastOf_0 F hC a0 x1 _ _ _ _ _ _ h (RL.start hR hcap hS hU) (lv_sub hl [0, 1] rfl)
def fM_put_0 (n d : Nat) (C : Cx) (a0 : Nat) (x1 : Int32) (M : Mem) : Rz := if mK M a0 = 5 then (rzD (mP M a0 39) fun a_2 => (if mK M a_2 = 21 then (if inA (mI M a0 38) (mL M a_2) then (rzM (setI M a_2 (mI M a0 38).toNatClampNeg x1) fun M_6 => (rzM (setI M_6 a0 38 ((mI M_6 a0 38) + 1)) fun M_10 => (some (.inl none, M_10)))) else none) else none)) else none
set_option maxRecDepth 100000 in
set_option maxHeartbeats 4000000 in
theorem tM_put_0 {n : Nat} (F : FX p s m meth c G R M0 d "HeadCountModel" bM_put 2 none) (hC : CBs l G d C) : ∀ (a0 : Nat) (x1 : Int32) (M : Mem) (H : Heap) (locs : List Loc) (cells slots : Nat) (ls : Array Slot), fM_put_0 n d C a0 x1 M = some (r, M') → RL G M0 M H locs cells slots → lv_has ls 2 [(0, .ref a0), (1, .int x1)] → W p l e R s m args below meth c H locs cells slots (CQ G below s M0 r M') (F0 m 0 ls []) := by
  obtain ⟨hx, hb, hml, hown, hrt, hlk, hex, hK, hRm⟩ := id F
  intro a0 x1 M H locs cells slots ls h hR hl
  unfold fM_put_0 at h
  refine lv_aload_n hx hb dM_put_0 rfl (lv_at hl 0 rfl) ?_
  obtain ⟨c_1, h⟩ := rz_chk h
  refine rg_getP hx hb hown hK hR hk_M 39 (by decide) kf_M_57 rfl c_1 dM_put_1 ?_
  refine lv_aload_n hx hb dM_put_4 rfl (lv_at hl 0 rfl) ?_
  refine rg_getI hx hb hown hK hR hk_M 38 (by decide) kf_M_206 rfl c_1 dM_put_5 ?_
  refine lv_iload_n hx hb dM_put_8 rfl (lv_at hl 1 rfl) ?_
  obtain ⟨a_2, e_3, h⟩ := rz_d h
  rw [e_3]
  obtain ⟨c_4, h⟩ := rz_chk h
  obtain ⟨c_5, h⟩ := rz_chk h
  obtain ⟨M_6, q_7, h⟩ := rz_m h
  refine rg_iast hx hb hK hR c_4 c_5 dM_put_9 (fun H locs hR => ?_)
  rw [← q_7] at hR
  have c_8 : mK M_6 a0 = 5 := by rw [q_7]; exact c_1
  have c_9 : mK M_6 a_2 = 21 := by rw [q_7]; exact c_4
  refine lv_aload_n hx hb dM_put_10 rfl (lv_at hl 0 rfl) ?_
  refine lv_dup hx hb dM_put_11 rfl ?_
  refine rg_getI hx hb hown hK hR hk_M 38 (by decide) kf_M_206 rfl c_8 dM_put_12 ?_
  refine lv_iconst (v := 1) hx hb dM_put_15 (by decide) ?_
  refine lv_iadd hx hb dM_put_16 ?_
  obtain ⟨M_10, q_11, h⟩ := rz_m h
  refine rg_putI hx hb hown hK hR hk_M 38 (by decide) kf_M_206 rfl rfl (ty := .int) (by decide +kernel) (Or.inl rfl) rfl c_8 dM_put_17 (fun H locs hR => ?_)
  rw [← q_11] at hR
  have c_12 : mK M_10 a0 = 5 := by rw [q_11]; exact c_8
  have c_13 : mK M_10 a_2 = 21 := by rw [q_11]; exact c_9
  cases h
  exact rt_v hx hb hlk hrt hR dM_put_20
set_option maxRecDepth 100000 in
set_option maxHeartbeats 4000000 in
theorem sM_put {l : Launch} {G : Gx} {n d : Nat} {C : Cx} (hC : CBs l G d C) (a0 : Nat) (x1 : Int32) {M M' : Mem} {r : Option Value ⊕ Nat} (h : fM_put_0 n d C a0 x1 M = some (r, M')) : CB l G (d + 1) yM_put [.ref a0, .int x1] M r M' := by
  intro p e R s m below meth c hx hn hm hc hlk hK hR hcap hS hU hfr hlo hrc hrs
  obtain ⟨hb, hml, hrt, hex, hown⟩ := fx_of hn hm hc (hK.w mfM_put.2.2.1 rfl #[])
  have F : FX p s m meth c G R M d "HeadCountModel" bM_put 2 none := ⟨hx, hb, hml, hown, hrt, hlk, hex, hK, hfr, hlo, by rw [← hcap]; exact hrc, hrs⟩
  rw [hml]
  have hl := lv_entry ([.ref a0, .int x1]) (n := 2) (by simp [lg_sl, cat_rf, cat_i, cat_a, cat_l, cat_n])
  rw [lg_entry_eq]
  generalize (lg_sl ([.ref a0, .int x1]) ++ List.replicate (2 - (lg_sl ([.ref a0, .int x1])).length) Slot.unset).toArray = ls at hl ⊢
  have hl : lv_has ls 2 [(0, .ref a0), (1, .int x1)] := by simpa [lv_args, cat_rf, cat_i, cat_a, cat_l, cat_n] using hl
  exact tM_put_0 F hC a0 x1 _ _ _ _ _ _ h (RL.start hR hcap hS hU) (lv_sub hl [0, 1] rfl)
def fM_doSum_202 (n d : Nat) (C : Cx) (M : Mem) : Rz := some (.inl none, M)
set_option maxRecDepth 100000 in
set_option maxHeartbeats 4000000 in
theorem tM_doSum_202 {n : Nat} (F : FX p s m meth c G R M0 d "HeadCountModel" bM_doSum 4 none) (hC : CBs l G d C) : ∀ (M : Mem) (H : Heap) (locs : List Loc) (cells slots : Nat) (ls : Array Slot), fM_doSum_202 n d C M = some (r, M') → RL G M0 M H locs cells slots → lv_has ls 4 [] → W p l e R s m args below meth c H locs cells slots (CQ G below s M0 r M') (F0 m 202 ls []) := by
  obtain ⟨hx, hb, hml, hown, hrt, hlk, hex, hK, hRm⟩ := id F
  intro M H locs cells slots ls h hR hl
  unfold fM_doSum_202 at h
  cases h
  exact rt_v hx hb hlk hrt hR dM_doSum_202
def fM_doSum_165 (n d : Nat) (C : Cx) (xs0 : Int32) (xs1 : Int32) (rs2 : Option Nat) (M : Mem) : Rz := rzD rs2 fun a_1 => (if mK M a_1 = 21 then (if inA xs1 (mL M a_1) then (rzM (setI M a_1 xs1.toNatClampNeg xs0) fun M_5 => (fM_doSum_202 n d C M_5)) else none) else none)
set_option maxRecDepth 100000 in
set_option maxHeartbeats 4000000 in
theorem tM_doSum_165 {n : Nat} (F : FX p s m meth c G R M0 d "HeadCountModel" bM_doSum 4 none) (hC : CBs l G d C) : ∀ (xs0 : Int32) (xs1 : Int32) (rs2 : Option Nat) (M : Mem) (H : Heap) (locs : List Loc) (cells slots : Nat) (ls : Array Slot), fM_doSum_165 n d C xs0 xs1 rs2 M = some (r, M') → RL G M0 M H locs cells slots → lv_has ls 4 [] → W p l e R s m args below meth c H locs cells slots (CQ G below s M0 r M') (F0 m 165 ls [.int xs0, .int xs1, va_rf rs2]) := by
  obtain ⟨hx, hb, hml, hown, hrt, hlk, hex, hK, hRm⟩ := id F
  intro xs0 xs1 rs2 M H locs cells slots ls h hR hl
  unfold fM_doSum_165 at h
  obtain ⟨a_1, e_2, h⟩ := rz_d h
  rw [e_2]
  obtain ⟨c_3, h⟩ := rz_chk h
  obtain ⟨c_4, h⟩ := rz_chk h
  obtain ⟨M_5, q_6, h⟩ := rz_m h
  refine rg_iast hx hb hK hR c_3 c_4 dM_doSum_165 (fun H locs hR => ?_)
  rw [← q_6] at hR
  have c_7 : mK M_5 a_1 = 21 := by rw [q_6]; exact c_3
  refine lv_goto (tgt := 202) hx hb dM_doSum_166 (by decide) ?_
  exact tM_doSum_202 F hC _ _ _ _ _ _ h hR (lv_sub hl [] rfl)
def fM_doSum_199 (n d : Nat) (C : Cx) (xs0 : Int32) (as1 : Nat) (M : Mem) : Rz := if mK M as1 = 5 then (rzC (C 100 [.ref as1, .int xs0] M) fun v_2 M_3 => (rzV v_2 (fM_doSum_202 n d C M_3))) else none
set_option maxRecDepth 100000 in
set_option maxHeartbeats 4000000 in
theorem tM_doSum_199 {n : Nat} (F : FX p s m meth c G R M0 d "HeadCountModel" bM_doSum 4 none) (hC : CBs l G d C) : ∀ (xs0 : Int32) (as1 : Nat) (M : Mem) (H : Heap) (locs : List Loc) (cells slots : Nat) (ls : Array Slot), fM_doSum_199 n d C xs0 as1 M = some (r, M') → RL G M0 M H locs cells slots → lv_has ls 4 [] → W p l e R s m args below meth c H locs cells slots (CQ G below s M0 r M') (F0 m 199 ls [.int xs0, .ref as1]) := by
  obtain ⟨hx, hb, hml, hown, hrt, hlk, hex, hK, hRm⟩ := id F
  intro xs0 as1 M H locs cells slots ls h hR hl
  unfold fM_doSum_199 at h
  obtain ⟨c_1, h⟩ := rz_chk h
  obtain ⟨q_5, M_3, h_4, h⟩ := rz_c h
  refine rc_V (rest := []) (As := [.int xs0]) hx hb (hl.1.trans hml.symm) hown hK hR hRm mfM_put kl_M_219 hk_M rfl rfl c_1 (by simp [cat_rf, cat_i, cat_a, cat_l, cat_n]) (hC 100 _ _ _ _ h_4) dM_doSum_199 (fun v1 H locs cells slots ev hR => ?_) (fun x1 q1 ce1 H locs cells slots ex hR g1 g2 g3 => ?_)
  · rcases h with ⟨v_2, ev2, h⟩ | ⟨e2, ee2, -⟩
    · cases ev.symm.trans ev2
      replace h := rz_v h
      obtain ⟨rfl, h⟩ := h
      dsimp only [Option.toList, List.cons_append, List.nil_append]
      exact tM_doSum_202 F hC _ _ _ _ _ _ h hR (lv_sub hl [] rfl)
    · cases ev.symm.trans ee2
  · rcases h with ⟨v2, ev2, -⟩ | ⟨e2, ee2, h⟩
    · cases ex.symm.trans ev2
    · cases ex.symm.trans ee2
      cases h
      exact rt_x hlk hex hR g1 g2 g3
def fM_doSum_0 (n d : Nat) (C : Cx) (a0 : Nat) (x1 : Int32) (x2 : Int32) (M : Mem) : Rz := if x1 = 18 then (if mK M a0 = 5 then (rzC (C 97 [.ref a0] M) fun v_57 M_58 => (rzI v_57 fun x_61 => (if mK M_58 a0 = 5 then (rzD (mP M_58 a0 39) fun a_63 => (if mK M_58 a_63 = 21 then (if inA ((mI M_58 a0 38) - 1) (mL M_58 a_63) then (if inA ((mI M_58 a0 38) - 1) (mL M_58 a_63) then (rzM (setI M_58 a_63 ((mI M_58 a0 38) - 1).toNatClampNeg ((mI M_58 a_63 ((mI M_58 a0 38) - 1).toNatClampNeg) + x_61)) fun M_68 => (fM_doSum_202 n d C M_68)) else none) else none) else none)) else none))) else none) else (if x1 = 16 then (if mK M a0 = 5 then (rzD (mP M a0 39) fun a_47 => (if mK M a_47 = 21 then (if inA ((mI M a0 38) - 1) (mL M a_47) then (if inA ((mI M a0 38) - 1) (mL M a_47) then (rzM (setI M a_47 ((mI M a0 38) - 1).toNatClampNeg (x2 * (mI M a_47 ((mI M a0 38) - 1).toNatClampNeg))) fun M_52 => (fM_doSum_202 n d C M_52)) else none) else none) else none)) else none) else (if x1 = 17 then (if mK M a0 = 5 then (rzD (mP M a0 39) fun a_37 => (if mK M a_37 = 21 then (if inA ((mI M a0 38) - 1) (mL M a_37) then (if inA ((mI M a0 38) - 1) (mL M a_37) then (rzM (setI M a_37 ((mI M a0 38) - 1).toNatClampNeg (-(mI M a_37 ((mI M a0 38) - 1).toNatClampNeg))) fun M_42 => (fM_doSum_202 n d C M_42)) else none) else none) else none)) else none) else (if x1 = 11 then (if mK M a0 = 5 then (rzD (mP M a0 39) fun a_22 => (if mK M a_22 = 21 then (if inA ((mI M a0 38) - 1) (mL M a_22) then (rzC (C 102 [.int (mI M a_22 ((mI M a0 38) - 1).toNatClampNeg)] M) fun v_26 M_27 => (rzI v_26 fun x_30 => (if mK M_27 a_22 = 21 then (if inA ((mI M a0 38) - 1) (mL M_27 a_22) then (rzM (setI M_27 a_22 ((mI M a0 38) - 1).toNatClampNeg x_30) fun M_33 => (fM_doSum_202 n d C M_33)) else none) else none))) else none) else none)) else none) else (if x1 = 21 then (if mK M a0 = 5 then (rzD (mP M a0 39) fun a_15 => (if mK M a_15 = 21 then (if inA ((mI M a0 38) - 1) (mL M a_15) then (if ¬ x2 = 0 then (if ((mI M a_15 ((mI M a0 38) - 1).toNatClampNeg) - (mI M a_15 ((mI M a0 38) - 1).toNatClampNeg) / x2 * x2) = 0 then (fM_doSum_165 n d C 1 ((mI M a0 38) - 1) (some a_15) M) else (fM_doSum_165 n d C 0 ((mI M a0 38) - 1) (some a_15) M)) else none) else none) else none)) else none) else (if x1 = 13 then (fM_doSum_199 n d C x2 a0 M) else (if x1 = 15 then (if mK M a0 = 5 then (fM_doSum_199 n d C (mI M a0 35) a0 M) else none) else (if mK M a0 = 5 then (rzD (mP M a0 36) fun a_9 => (if mK M a_9 = 21 then (if inA x2 (mL M a_9) then (fM_doSum_199 n d C (mI M a_9 x2.toNatClampNeg) a0 M) else none) else none)) else none)))))))
set_option maxRecDepth 100000 in
set_option maxHeartbeats 4000000 in
theorem tM_doSum_0 {n : Nat} (F : FX p s m meth c G R M0 d "HeadCountModel" bM_doSum 4 none) (hC : CBs l G d C) : ∀ (a0 : Nat) (x1 : Int32) (x2 : Int32) (M : Mem) (H : Heap) (locs : List Loc) (cells slots : Nat) (ls : Array Slot), fM_doSum_0 n d C a0 x1 x2 M = some (r, M') → RL G M0 M H locs cells slots → lv_has ls 4 [(0, .ref a0), (1, .int x1), (2, .int x2)] → W p l e R s m args below meth c H locs cells slots (CQ G below s M0 r M') (F0 m 0 ls []) := by
  obtain ⟨hx, hb, hml, hown, hrt, hlk, hex, hK, hRm⟩ := id F
  intro a0 x1 x2 M H locs cells slots ls h hR hl
  unfold fM_doSum_0 at h
  refine lv_iload_n hx hb dM_doSum_0 rfl (lv_at hl 1 rfl) ?_
  refine lv_bipush (v := 18) hx hb dM_doSum_1 (by decide) ?_
  refine lv_icmp_ne (tgt := 29) hx hb dM_doSum_3 (by decide) (fun c_1 => ?_) (fun c_1 => ?_)
  · replace h := rz_f c_1 h
    refine lv_iload_n hx hb dM_doSum_29 rfl (lv_at hl 1 rfl) ?_
    refine lv_bipush (v := 16) hx hb dM_doSum_30 (by decide) ?_
    refine lv_icmp_ne (tgt := 62) hx hb dM_doSum_32 (by decide) (fun c_2 => ?_) (fun c_2 => ?_)
    · replace h := rz_f c_2 h
      refine lv_iload_n hx hb dM_doSum_62 rfl (lv_at hl 1 rfl) ?_
      refine lv_bipush (v := 17) hx hb dM_doSum_63 (by decide) ?_
      refine lv_icmp_ne (tgt := 94) hx hb dM_doSum_65 (by decide) (fun c_3 => ?_) (fun c_3 => ?_)
      · replace h := rz_f c_3 h
        refine lv_iload_n hx hb dM_doSum_94 rfl (lv_at hl 1 rfl) ?_
        refine lv_bipush (v := 11) hx hb dM_doSum_95 (by decide) ?_
        refine lv_icmp_ne (tgt := 128) hx hb dM_doSum_97 (by decide) (fun c_4 => ?_) (fun c_4 => ?_)
        · replace h := rz_f c_4 h
          refine lv_iload_n hx hb dM_doSum_128 rfl (lv_at hl 1 rfl) ?_
          refine lv_bipush (v := 21) hx hb dM_doSum_129 (by decide) ?_
          refine lv_icmp_ne (tgt := 169) hx hb dM_doSum_131 (by decide) (fun c_5 => ?_) (fun c_5 => ?_)
          · replace h := rz_f c_5 h
            refine lv_aload_n hx hb dM_doSum_169 rfl (lv_at hl 0 rfl) ?_
            refine lv_iload_n hx hb dM_doSum_170 rfl (lv_at hl 1 rfl) ?_
            refine lv_bipush (v := 13) hx hb dM_doSum_171 (by decide) ?_
            refine lv_icmp_ne (tgt := 180) hx hb dM_doSum_173 (by decide) (fun c_6 => ?_) (fun c_6 => ?_)
            · replace h := rz_f c_6 h
              refine lv_iload_n hx hb dM_doSum_180 rfl (lv_at hl 1 rfl) ?_
              refine lv_bipush (v := 15) hx hb dM_doSum_181 (by decide) ?_
              refine lv_icmp_ne (tgt := 193) hx hb dM_doSum_183 (by decide) (fun c_7 => ?_) (fun c_7 => ?_)
              · replace h := rz_f c_7 h
                refine lv_aload_n hx hb dM_doSum_193 rfl (lv_at hl 0 rfl) ?_
                obtain ⟨c_8, h⟩ := rz_chk h
                refine rg_getP hx hb hown hK hR hk_M 36 (by decide) kf_M_51 rfl c_8 dM_doSum_194 ?_
                refine lv_iload_n hx hb dM_doSum_197 rfl (lv_at hl 2 rfl) ?_
                obtain ⟨a_9, e_10, h⟩ := rz_d h
                rw [e_10]
                obtain ⟨c_11, h⟩ := rz_chk h
                obtain ⟨c_12, h⟩ := rz_chk h
                refine rg_iald hx hb hK hR c_11 c_12 dM_doSum_198 ?_
                exact tM_doSum_199 F hC (mI M a_9 x2.toNatClampNeg) a0 _ _ _ _ _ _ h hR (lv_sub hl [] rfl)
              · replace h := rz_t c_7 h
                refine lv_aload_n hx hb dM_doSum_186 rfl (lv_at hl 0 rfl) ?_
                obtain ⟨c_13, h⟩ := rz_chk h
                refine rg_getI hx hb hown hK hR hk_M 35 (by decide) kf_M_216 rfl c_13 dM_doSum_187 ?_
                refine lv_goto (tgt := 199) hx hb dM_doSum_190 (by decide) ?_
                exact tM_doSum_199 F hC (mI M a0 35) a0 _ _ _ _ _ _ h hR (lv_sub hl [] rfl)
            · replace h := rz_t c_6 h
              refine lv_iload_n hx hb dM_doSum_176 rfl (lv_at hl 2 rfl) ?_
              refine lv_goto (tgt := 199) hx hb dM_doSum_177 (by decide) ?_
              exact tM_doSum_199 F hC x2 a0 _ _ _ _ _ _ h hR (lv_sub hl [] rfl)
          · replace h := rz_t c_5 h
            refine lv_aload_n hx hb dM_doSum_134 rfl (lv_at hl 0 rfl) ?_
            obtain ⟨c_14, h⟩ := rz_chk h
            refine rg_getP hx hb hown hK hR hk_M 39 (by decide) kf_M_57 rfl c_14 dM_doSum_135 ?_
            refine lv_aload_n hx hb dM_doSum_138 rfl (lv_at hl 0 rfl) ?_
            refine rg_getI hx hb hown hK hR hk_M 38 (by decide) kf_M_206 rfl c_14 dM_doSum_139 ?_
            refine lv_iconst (v := 1) hx hb dM_doSum_142 (by decide) ?_
            refine lv_isub hx hb dM_doSum_143 ?_
            refine lv_aload_n hx hb dM_doSum_144 rfl (lv_at hl 0 rfl) ?_
            refine rg_getP hx hb hown hK hR hk_M 39 (by decide) kf_M_57 rfl c_14 dM_doSum_145 ?_
            refine lv_aload_n hx hb dM_doSum_148 rfl (lv_at hl 0 rfl) ?_
            refine rg_getI hx hb hown hK hR hk_M 38 (by decide) kf_M_206 rfl c_14 dM_doSum_149 ?_
            refine lv_iconst (v := 1) hx hb dM_doSum_152 (by decide) ?_
            refine lv_isub hx hb dM_doSum_153 ?_
            obtain ⟨a_15, e_16, h⟩ := rz_d h
            rw [e_16]
            obtain ⟨c_17, h⟩ := rz_chk h
            obtain ⟨c_18, h⟩ := rz_chk h
            refine rg_iald hx hb hK hR c_17 c_18 dM_doSum_154 ?_
            refine lv_iload_n hx hb dM_doSum_155 rfl (lv_at hl 2 rfl) ?_
            obtain ⟨c_19, h⟩ := rz_chk h
            refine lv_irem hx hb dM_doSum_156 c_19 ?_
            refine lv_if_ne (tgt := 164) hx hb dM_doSum_157 (by decide) (fun c_20 => ?_) (fun c_20 => ?_)
            · replace h := rz_f c_20 h
              refine lv_iconst (v := 0) hx hb dM_doSum_164 (by decide) ?_
              exact tM_doSum_165 F hC 0 ((mI M a0 38) - 1) (some a_15) _ _ _ _ _ _ h hR (lv_sub hl [] rfl)
            · replace h := rz_t c_20 h
              refine lv_iconst (v := 1) hx hb dM_doSum_160 (by decide) ?_
              refine lv_goto (tgt := 165) hx hb dM_doSum_161 (by decide) ?_
              exact tM_doSum_165 F hC 1 ((mI M a0 38) - 1) (some a_15) _ _ _ _ _ _ h hR (lv_sub hl [] rfl)
        · replace h := rz_t c_4 h
          refine lv_aload_n hx hb dM_doSum_100 rfl (lv_at hl 0 rfl) ?_
          obtain ⟨c_21, h⟩ := rz_chk h
          refine rg_getP hx hb hown hK hR hk_M 39 (by decide) kf_M_57 rfl c_21 dM_doSum_101 ?_
          refine lv_aload_n hx hb dM_doSum_104 rfl (lv_at hl 0 rfl) ?_
          refine rg_getI hx hb hown hK hR hk_M 38 (by decide) kf_M_206 rfl c_21 dM_doSum_105 ?_
          refine lv_iconst (v := 1) hx hb dM_doSum_108 (by decide) ?_
          refine lv_isub hx hb dM_doSum_109 ?_
          refine lv_aload_n hx hb dM_doSum_110 rfl (lv_at hl 0 rfl) ?_
          refine rg_getP hx hb hown hK hR hk_M 39 (by decide) kf_M_57 rfl c_21 dM_doSum_111 ?_
          refine lv_aload_n hx hb dM_doSum_114 rfl (lv_at hl 0 rfl) ?_
          refine rg_getI hx hb hown hK hR hk_M 38 (by decide) kf_M_206 rfl c_21 dM_doSum_115 ?_
          refine lv_iconst (v := 1) hx hb dM_doSum_118 (by decide) ?_
          refine lv_isub hx hb dM_doSum_119 ?_
          obtain ⟨a_22, e_23, h⟩ := rz_d h
          rw [e_23]
          obtain ⟨c_24, h⟩ := rz_chk h
          obtain ⟨c_25, h⟩ := rz_chk h
          refine rg_iald hx hb hK hR c_24 c_25 dM_doSum_120 ?_
          obtain ⟨q_29, M_27, h_28, h⟩ := rz_c h
          refine rc_S (rest := [.int ((mI M a0 38) - 1), .ref a_22]) (As := [.int (mI M a_22 ((mI M a0 38) - 1).toNatClampNeg)]) hx hb (hl.1.trans hml.symm) hown hK hR hRm mfM_count kl_M_212 rfl (by simp [cat_rf, cat_i, cat_a, cat_l, cat_n]) (hC 102 _ _ _ _ h_28) dM_doSum_121 (fun v1 H locs cells slots ev hR => ?_) (fun x1 q1 ce1 H locs cells slots ex hR g1 g2 g3 => ?_)
          · rcases h with ⟨v_26, ev2, h⟩ | ⟨e2, ee2, -⟩
            · cases ev.symm.trans ev2
              replace h := rz_i h
              obtain ⟨x_30, rfl, h⟩ := h
              dsimp only [Option.toList, List.cons_append, List.nil_append]
              obtain ⟨c_31, h⟩ := rz_chk h
              obtain ⟨c_32, h⟩ := rz_chk h
              obtain ⟨M_33, q_34, h⟩ := rz_m h
              refine rg_iast hx hb hK hR c_31 c_32 dM_doSum_124 (fun H locs hR => ?_)
              rw [← q_34] at hR
              have c_35 : mK M_33 a_22 = 21 := by rw [q_34]; exact c_31
              refine lv_goto (tgt := 202) hx hb dM_doSum_125 (by decide) ?_
              exact tM_doSum_202 F hC _ _ _ _ _ _ h hR (lv_sub hl [] rfl)
            · cases ev.symm.trans ee2
          · rcases h with ⟨v2, ev2, -⟩ | ⟨e2, ee2, h⟩
            · cases ex.symm.trans ev2
            · cases ex.symm.trans ee2
              cases h
              exact rt_x hlk hex hR g1 g2 g3
      · replace h := rz_t c_3 h
        refine lv_aload_n hx hb dM_doSum_68 rfl (lv_at hl 0 rfl) ?_
        obtain ⟨c_36, h⟩ := rz_chk h
        refine rg_getP hx hb hown hK hR hk_M 39 (by decide) kf_M_57 rfl c_36 dM_doSum_69 ?_
        refine lv_aload_n hx hb dM_doSum_72 rfl (lv_at hl 0 rfl) ?_
        refine rg_getI hx hb hown hK hR hk_M 38 (by decide) kf_M_206 rfl c_36 dM_doSum_73 ?_
        refine lv_iconst (v := 1) hx hb dM_doSum_76 (by decide) ?_
        refine lv_isub hx hb dM_doSum_77 ?_
        refine lv_aload_n hx hb dM_doSum_78 rfl (lv_at hl 0 rfl) ?_
        refine rg_getP hx hb hown hK hR hk_M 39 (by decide) kf_M_57 rfl c_36 dM_doSum_79 ?_
        refine lv_aload_n hx hb dM_doSum_82 rfl (lv_at hl 0 rfl) ?_
        refine rg_getI hx hb hown hK hR hk_M 38 (by decide) kf_M_206 rfl c_36 dM_doSum_83 ?_
        refine lv_iconst (v := 1) hx hb dM_doSum_86 (by decide) ?_
        refine lv_isub hx hb dM_doSum_87 ?_
        obtain ⟨a_37, e_38, h⟩ := rz_d h
        rw [e_38]
        obtain ⟨c_39, h⟩ := rz_chk h
        obtain ⟨c_40, h⟩ := rz_chk h
        refine rg_iald hx hb hK hR c_39 c_40 dM_doSum_88 ?_
        refine lv_ineg hx hb dM_doSum_89 ?_
        obtain ⟨c_41, h⟩ := rz_chk h
        obtain ⟨M_42, q_43, h⟩ := rz_m h
        refine rg_iast hx hb hK hR c_39 c_41 dM_doSum_90 (fun H locs hR => ?_)
        rw [← q_43] at hR
        have c_44 : mK M_42 a0 = 5 := by rw [q_43]; exact c_36
        have c_45 : mK M_42 a_37 = 21 := by rw [q_43]; exact c_39
        refine lv_goto (tgt := 202) hx hb dM_doSum_91 (by decide) ?_
        exact tM_doSum_202 F hC _ _ _ _ _ _ h hR (lv_sub hl [] rfl)
    · replace h := rz_t c_2 h
      refine lv_aload_n hx hb dM_doSum_35 rfl (lv_at hl 0 rfl) ?_
      obtain ⟨c_46, h⟩ := rz_chk h
      refine rg_getP hx hb hown hK hR hk_M 39 (by decide) kf_M_57 rfl c_46 dM_doSum_36 ?_
      refine lv_aload_n hx hb dM_doSum_39 rfl (lv_at hl 0 rfl) ?_
      refine rg_getI hx hb hown hK hR hk_M 38 (by decide) kf_M_206 rfl c_46 dM_doSum_40 ?_
      refine lv_iconst (v := 1) hx hb dM_doSum_43 (by decide) ?_
      refine lv_isub hx hb dM_doSum_44 ?_
      refine lv_iload_n hx hb dM_doSum_45 rfl (lv_at hl 2 rfl) ?_
      refine lv_aload_n hx hb dM_doSum_46 rfl (lv_at hl 0 rfl) ?_
      refine rg_getP hx hb hown hK hR hk_M 39 (by decide) kf_M_57 rfl c_46 dM_doSum_47 ?_
      refine lv_aload_n hx hb dM_doSum_50 rfl (lv_at hl 0 rfl) ?_
      refine rg_getI hx hb hown hK hR hk_M 38 (by decide) kf_M_206 rfl c_46 dM_doSum_51 ?_
      refine lv_iconst (v := 1) hx hb dM_doSum_54 (by decide) ?_
      refine lv_isub hx hb dM_doSum_55 ?_
      obtain ⟨a_47, e_48, h⟩ := rz_d h
      rw [e_48]
      obtain ⟨c_49, h⟩ := rz_chk h
      obtain ⟨c_50, h⟩ := rz_chk h
      refine rg_iald hx hb hK hR c_49 c_50 dM_doSum_56 ?_
      refine lv_imul hx hb dM_doSum_57 ?_
      obtain ⟨c_51, h⟩ := rz_chk h
      obtain ⟨M_52, q_53, h⟩ := rz_m h
      refine rg_iast hx hb hK hR c_49 c_51 dM_doSum_58 (fun H locs hR => ?_)
      rw [← q_53] at hR
      have c_54 : mK M_52 a0 = 5 := by rw [q_53]; exact c_46
      have c_55 : mK M_52 a_47 = 21 := by rw [q_53]; exact c_49
      refine lv_goto (tgt := 202) hx hb dM_doSum_59 (by decide) ?_
      exact tM_doSum_202 F hC _ _ _ _ _ _ h hR (lv_sub hl [] rfl)
  · replace h := rz_t c_1 h
    refine lv_aload_n hx hb dM_doSum_6 rfl (lv_at hl 0 rfl) ?_
    obtain ⟨c_56, h⟩ := rz_chk h
    obtain ⟨q_60, M_58, h_59, h⟩ := rz_c h
    refine rc_V (rest := []) (As := []) hx hb (hl.1.trans hml.symm) hown hK hR hRm mfM_pop kl_M_209 hk_M rfl rfl c_56 (by simp [cat_rf, cat_i, cat_a, cat_l, cat_n]) (hC 97 _ _ _ _ h_59) dM_doSum_7 (fun v1 H locs cells slots ev hR => ?_) (fun x1 q1 ce1 H locs cells slots ex hR g1 g2 g3 => ?_)
    · rcases h with ⟨v_57, ev2, h⟩ | ⟨e2, ee2, -⟩
      · cases ev.symm.trans ev2
        replace h := rz_i h
        obtain ⟨x_61, rfl, h⟩ := h
        dsimp only [Option.toList, List.cons_append, List.nil_append]
        refine lv_istore_n (lv' := [(3, .int x_61), (0, .ref a0), (1, .int x1), (2, .int x2)]) hx hb dM_doSum_10 rfl hl (by decide) rfl (fun ls hl => ?_)
        refine lv_aload_n hx hb dM_doSum_11 rfl (lv_at hl 1 rfl) ?_
        obtain ⟨c_62, h⟩ := rz_chk h
        refine rg_getP hx hb hown hK hR hk_M 39 (by decide) kf_M_57 rfl c_62 dM_doSum_12 ?_
        refine lv_aload_n hx hb dM_doSum_15 rfl (lv_at hl 1 rfl) ?_
        refine rg_getI hx hb hown hK hR hk_M 38 (by decide) kf_M_206 rfl c_62 dM_doSum_16 ?_
        refine lv_iconst (v := 1) hx hb dM_doSum_19 (by decide) ?_
        refine lv_isub hx hb dM_doSum_20 ?_
        refine lv_dup2_11 hx hb dM_doSum_21 rfl (cat_rf _) ?_
        obtain ⟨a_63, e_64, h⟩ := rz_d h
        rw [e_64]
        obtain ⟨c_65, h⟩ := rz_chk h
        obtain ⟨c_66, h⟩ := rz_chk h
        refine rg_iald hx hb hK hR c_65 c_66 dM_doSum_22 ?_
        refine lv_iload_n hx hb dM_doSum_23 rfl (lv_at hl 0 rfl) ?_
        refine lv_iadd hx hb dM_doSum_24 ?_
        obtain ⟨c_67, h⟩ := rz_chk h
        obtain ⟨M_68, q_69, h⟩ := rz_m h
        refine rg_iast hx hb hK hR c_65 c_67 dM_doSum_25 (fun H locs hR => ?_)
        rw [← q_69] at hR
        have c_70 : mK M_68 a0 = 5 := by rw [q_69]; exact c_62
        have c_71 : mK M_68 a_63 = 21 := by rw [q_69]; exact c_65
        refine lv_goto (tgt := 202) hx hb dM_doSum_26 (by decide) ?_
        exact tM_doSum_202 F hC _ _ _ _ _ _ h hR (lv_sub hl [] rfl)
      · cases ev.symm.trans ee2
    · rcases h with ⟨v2, ev2, -⟩ | ⟨e2, ee2, h⟩
      · cases ex.symm.trans ev2
      · cases ex.symm.trans ee2
        cases h
        exact rt_x hlk hex hR g1 g2 g3
set_option maxRecDepth 100000 in
set_option maxHeartbeats 4000000 in
theorem sM_doSum {l : Launch} {G : Gx} {n d : Nat} {C : Cx} (hC : CBs l G d C) (a0 : Nat) (x1 : Int32) (x2 : Int32) {M M' : Mem} {r : Option Value ⊕ Nat} (h : fM_doSum_0 n d C a0 x1 x2 M = some (r, M')) : CB l G (d + 1) yM_doSum [.ref a0, .int x1, .int x2] M r M' := by
  intro p e R s m below meth c hx hn hm hc hlk hK hR hcap hS hU hfr hlo hrc hrs
  obtain ⟨hb, hml, hrt, hex, hown⟩ := fx_of hn hm hc (hK.w mfM_doSum.2.2.1 rfl #[])
  have F : FX p s m meth c G R M d "HeadCountModel" bM_doSum 4 none := ⟨hx, hb, hml, hown, hrt, hlk, hex, hK, hfr, hlo, by rw [← hcap]; exact hrc, hrs⟩
  rw [hml]
  have hl := lv_entry ([.ref a0, .int x1, .int x2]) (n := 4) (by simp [lg_sl, cat_rf, cat_i, cat_a, cat_l, cat_n])
  rw [lg_entry_eq]
  generalize (lg_sl ([.ref a0, .int x1, .int x2]) ++ List.replicate (4 - (lg_sl ([.ref a0, .int x1, .int x2])).length) Slot.unset).toArray = ls at hl ⊢
  have hl : lv_has ls 4 [(0, .ref a0), (1, .int x1), (2, .int x2)] := by simpa [lv_args, cat_rf, cat_i, cat_a, cat_l, cat_n] using hl
  exact tM_doSum_0 F hC a0 x1 x2 _ _ _ _ _ _ h (RL.start hR hcap hS hU) (lv_sub hl [0, 1, 2] rfl)
def fM_count_4 (n d : Nat) (C : Cx) : Nat → Int32 → Int32 → Int32 → Mem → Rz
  | 0, _, _, _, _ => none
  | w + 1, x0, x1, x2, M => if 4 ≤ x2 then (some (.inl (some (.int x1)), M)) else (fM_count_4 n d C w x0 (x1 + ((x0 >>> (x2 &&& 31)) &&& 1)) (x2 + 1) M)
set_option maxRecDepth 100000 in
set_option maxHeartbeats 4000000 in
theorem tM_count_4 {n : Nat} (F : FX p s m meth c G R M0 d "HeadCountModel" bM_count 3 (some .int)) (hC : CBs l G d C) : ∀ (w : Nat) (x0 : Int32) (x1 : Int32) (x2 : Int32) (M : Mem) (H : Heap) (locs : List Loc) (cells slots : Nat) (ls : Array Slot), fM_count_4 n d C w x0 x1 x2 M = some (r, M') → RL G M0 M H locs cells slots → lv_has ls 3 [(0, .int x0), (1, .int x1), (2, .int x2)] → W p l e R s m args below meth c H locs cells slots (CQ G below s M0 r M') (F0 m 4 ls []) := by
  obtain ⟨hx, hb, hml, hown, hrt, hlk, hex, hK, hRm⟩ := id F
  intro w
  induction w with
  | zero => intro x0 x1 x2 M H locs cells slots ls h; cases h
  | succ w ih =>
    intro x0 x1 x2 M H locs cells slots ls h hR hl
    rw [fM_count_4] at h
    refine lv_iload_n hx hb dM_count_4 rfl (lv_at hl 2 rfl) ?_
    refine lv_iconst (v := 4) hx hb dM_count_5 (by decide) ?_
    refine lv_icmp_ge (tgt := 23) hx hb dM_count_6 (by decide) (fun c_1 => ?_) (fun c_1 => ?_)
    · replace h := rz_t c_1 h
      refine lv_iload_n hx hb dM_count_23 rfl (lv_at hl 1 rfl) ?_
      cases h
      exact rt_i hx hb hlk hrt (Or.inl rfl) rfl hR dM_count_24
    · replace h := rz_f c_1 h
      refine lv_iload_n hx hb dM_count_9 rfl (lv_at hl 1 rfl) ?_
      refine lv_iload_n hx hb dM_count_10 rfl (lv_at hl 0 rfl) ?_
      refine lv_iload_n hx hb dM_count_11 rfl (lv_at hl 2 rfl) ?_
      refine lv_ishr hx hb dM_count_12 ?_
      refine lv_iconst (v := 1) hx hb dM_count_13 (by decide) ?_
      refine lv_iand hx hb dM_count_14 ?_
      refine lv_iadd hx hb dM_count_15 ?_
      refine lv_istore_n (lv' := [(1, .int (x1 + ((x0 >>> (x2 &&& 31)) &&& 1))), (0, .int x0), (2, .int x2)]) hx hb dM_count_16 rfl hl (by decide) rfl (fun ls hl => ?_)
      refine lv_iinc (k := 2) (v := x2 + 1) (lv' := [(2, .int (x2 + 1)), (1, .int (x1 + ((x0 >>> (x2 &&& 31)) &&& 1))), (0, .int x0)]) hx hb dM_count_17 hl rfl (by rw [show Int32.ofInt 1 = 1 from by decide]) (by decide) rfl (fun ls hl => ?_)
      refine lv_goto (tgt := 4) hx hb dM_count_20 (by decide) ?_
      exact ih x0 (x1 + ((x0 >>> (x2 &&& 31)) &&& 1)) (x2 + 1) _ _ _ _ _ _ h hR (lv_sub hl [2, 1, 0] rfl)
def fM_count_0 (n d : Nat) (C : Cx) (x0 : Int32) (M : Mem) : Rz := fM_count_4 n d C n x0 0 0 M
set_option maxRecDepth 100000 in
set_option maxHeartbeats 4000000 in
theorem tM_count_0 {n : Nat} (F : FX p s m meth c G R M0 d "HeadCountModel" bM_count 3 (some .int)) (hC : CBs l G d C) : ∀ (x0 : Int32) (M : Mem) (H : Heap) (locs : List Loc) (cells slots : Nat) (ls : Array Slot), fM_count_0 n d C x0 M = some (r, M') → RL G M0 M H locs cells slots → lv_has ls 3 [(0, .int x0)] → W p l e R s m args below meth c H locs cells slots (CQ G below s M0 r M') (F0 m 0 ls []) := by
  obtain ⟨hx, hb, hml, hown, hrt, hlk, hex, hK, hRm⟩ := id F
  intro x0 M H locs cells slots ls h hR hl
  unfold fM_count_0 at h
  refine lv_iconst (v := 0) hx hb dM_count_0 (by decide) ?_
  refine lv_istore_n (lv' := [(1, .int 0), (0, .int x0)]) hx hb dM_count_1 rfl hl (by decide) rfl (fun ls hl => ?_)
  refine lv_iconst (v := 0) hx hb dM_count_2 (by decide) ?_
  refine lv_istore_n (lv' := [(2, .int 0), (1, .int 0), (0, .int x0)]) hx hb dM_count_3 rfl hl (by decide) rfl (fun ls hl => ?_)
  exact tM_count_4 F hC n x0 0 0 _ _ _ _ _ _ h hR (lv_sub hl [2, 1, 0] rfl)
set_option maxRecDepth 100000 in
set_option maxHeartbeats 4000000 in
theorem sM_count {l : Launch} {G : Gx} {n d : Nat} {C : Cx} (hC : CBs l G d C) (x0 : Int32) {M M' : Mem} {r : Option Value ⊕ Nat} (h : fM_count_0 n d C x0 M = some (r, M')) : CB l G (d + 1) yM_count [.int x0] M r M' := by
  intro p e R s m below meth c hx hn hm hc hlk hK hR hcap hS hU hfr hlo hrc hrs
  obtain ⟨hb, hml, hrt, hex, hown⟩ := fx_of hn hm hc (hK.w mfM_count.2.2.1 rfl #[])
  have F : FX p s m meth c G R M d "HeadCountModel" bM_count 3 (some .int) := ⟨hx, hb, hml, hown, hrt, hlk, hex, hK, hfr, hlo, by rw [← hcap]; exact hrc, hrs⟩
  rw [hml]
  have hl := lv_entry ([.int x0]) (n := 3) (by simp [lg_sl, cat_rf, cat_i, cat_a, cat_l, cat_n])
  rw [lg_entry_eq]
  generalize (lg_sl ([.int x0]) ++ List.replicate (3 - (lg_sl ([.int x0])).length) Slot.unset).toArray = ls at hl ⊢
  have hl : lv_has ls 3 [(0, .int x0)] := by simpa [lv_args, cat_rf, cat_i, cat_a, cat_l, cat_n] using hl
  exact tM_count_0 F hC x0 _ _ _ _ _ _ h (RL.start hR hcap hS hU) (lv_sub hl [0] rfl)
def fM_doOther_225 (n d : Nat) (C : Cx) (M : Mem) : Rz := some (.inl none, M)
set_option maxRecDepth 100000 in
set_option maxHeartbeats 4000000 in
theorem tM_doOther_225 {n : Nat} (F : FX p s m meth c G R M0 d "HeadCountModel" bM_doOther 5 none) (hC : CBs l G d C) : ∀ (M : Mem) (H : Heap) (locs : List Loc) (cells slots : Nat) (ls : Array Slot), fM_doOther_225 n d C M = some (r, M') → RL G M0 M H locs cells slots → lv_has ls 5 [] → W p l e R s m args below meth c H locs cells slots (CQ G below s M0 r M') (F0 m 225 ls []) := by
  obtain ⟨hx, hb, hml, hown, hrt, hlk, hex, hK, hRm⟩ := id F
  intro M H locs cells slots ls h hR hl
  unfold fM_doOther_225 at h
  cases h
  exact rt_v hx hb hlk hrt hR dM_doOther_225
def fM_doOther_33 (n d : Nat) (C : Cx) (xs0 : Int32) (as1 : Nat) (M : Mem) : Rz := if mK M as1 = 5 then (rzC (C 100 [.ref as1, .int xs0] M) fun v_2 M_3 => (rzV v_2 (fM_doOther_225 n d C M_3))) else none
set_option maxRecDepth 100000 in
set_option maxHeartbeats 4000000 in
theorem tM_doOther_33 {n : Nat} (F : FX p s m meth c G R M0 d "HeadCountModel" bM_doOther 5 none) (hC : CBs l G d C) : ∀ (xs0 : Int32) (as1 : Nat) (M : Mem) (H : Heap) (locs : List Loc) (cells slots : Nat) (ls : Array Slot), fM_doOther_33 n d C xs0 as1 M = some (r, M') → RL G M0 M H locs cells slots → lv_has ls 5 [] → W p l e R s m args below meth c H locs cells slots (CQ G below s M0 r M') (F0 m 33 ls [.int xs0, .ref as1]) := by
  obtain ⟨hx, hb, hml, hown, hrt, hlk, hex, hK, hRm⟩ := id F
  intro xs0 as1 M H locs cells slots ls h hR hl
  unfold fM_doOther_33 at h
  obtain ⟨c_1, h⟩ := rz_chk h
  obtain ⟨q_5, M_3, h_4, h⟩ := rz_c h
  refine rc_V (rest := []) (As := [.int xs0]) hx hb (hl.1.trans hml.symm) hown hK hR hRm mfM_put kl_M_219 hk_M rfl rfl c_1 (by simp [cat_rf, cat_i, cat_a, cat_l, cat_n]) (hC 100 _ _ _ _ h_4) dM_doOther_33 (fun v1 H locs cells slots ev hR => ?_) (fun x1 q1 ce1 H locs cells slots ex hR g1 g2 g3 => ?_)
  · rcases h with ⟨v_2, ev2, h⟩ | ⟨e2, ee2, -⟩
    · cases ev.symm.trans ev2
      replace h := rz_v h
      obtain ⟨rfl, h⟩ := h
      dsimp only [Option.toList, List.cons_append, List.nil_append]
      refine lv_goto (tgt := 225) hx hb dM_doOther_36 (by decide) ?_
      exact tM_doOther_225 F hC _ _ _ _ _ _ h hR (lv_sub hl [] rfl)
    · cases ev.symm.trans ee2
  · rcases h with ⟨v2, ev2, -⟩ | ⟨e2, ee2, h⟩
    · cases ex.symm.trans ev2
    · cases ex.symm.trans ee2
      cases h
      exact rt_x hlk hex hR g1 g2 g3
def fM_doOther_21 (n d : Nat) (C : Cx) (a0 : Nat) (x1 : Int32) (x2 : Int32) (M : Mem) : Rz := if x1 = 23 then (fM_doOther_33 n d C 0 a0 M) else (fM_doOther_33 n d C x2 a0 M)
set_option maxRecDepth 100000 in
set_option maxHeartbeats 4000000 in
theorem tM_doOther_21 {n : Nat} (F : FX p s m meth c G R M0 d "HeadCountModel" bM_doOther 5 none) (hC : CBs l G d C) : ∀ (a0 : Nat) (x1 : Int32) (x2 : Int32) (M : Mem) (H : Heap) (locs : List Loc) (cells slots : Nat) (ls : Array Slot), fM_doOther_21 n d C a0 x1 x2 M = some (r, M') → RL G M0 M H locs cells slots → lv_has ls 5 [(0, .ref a0), (1, .int x1), (2, .int x2)] → W p l e R s m args below meth c H locs cells slots (CQ G below s M0 r M') (F0 m 21 ls []) := by
  obtain ⟨hx, hb, hml, hown, hrt, hlk, hex, hK, hRm⟩ := id F
  intro a0 x1 x2 M H locs cells slots ls h hR hl
  unfold fM_doOther_21 at h
  refine lv_aload_n hx hb dM_doOther_21 rfl (lv_at hl 0 rfl) ?_
  refine lv_iload_n hx hb dM_doOther_22 rfl (lv_at hl 1 rfl) ?_
  refine lv_bipush (v := 23) hx hb dM_doOther_23 (by decide) ?_
  refine lv_icmp_ne (tgt := 32) hx hb dM_doOther_25 (by decide) (fun c_1 => ?_) (fun c_1 => ?_)
  · replace h := rz_f c_1 h
    refine lv_iload_n hx hb dM_doOther_32 rfl (lv_at hl 2 rfl) ?_
    exact tM_doOther_33 F hC x2 a0 _ _ _ _ _ _ h hR (lv_sub hl [] rfl)
  · replace h := rz_t c_1 h
    refine lv_iconst (v := 0) hx hb dM_doOther_28 (by decide) ?_
    refine lv_goto (tgt := 33) hx hb dM_doOther_29 (by decide) ?_
    exact tM_doOther_33 F hC 0 a0 _ _ _ _ _ _ h hR (lv_sub hl [] rfl)
def fM_doOther_224 (n d : Nat) (C : Cx) (xs0 : Int32) (xs1 : Int32) (rs2 : Option Nat) (M : Mem) : Rz := rzD rs2 fun a_1 => (if mK M a_1 = 21 then (if inA xs1 (mL M a_1) then (rzM (setI M a_1 xs1.toNatClampNeg xs0) fun M_5 => (fM_doOther_225 n d C M_5)) else none) else none)
set_option maxRecDepth 100000 in
set_option maxHeartbeats 4000000 in
theorem tM_doOther_224 {n : Nat} (F : FX p s m meth c G R M0 d "HeadCountModel" bM_doOther 5 none) (hC : CBs l G d C) : ∀ (xs0 : Int32) (xs1 : Int32) (rs2 : Option Nat) (M : Mem) (H : Heap) (locs : List Loc) (cells slots : Nat) (ls : Array Slot), fM_doOther_224 n d C xs0 xs1 rs2 M = some (r, M') → RL G M0 M H locs cells slots → lv_has ls 5 [] → W p l e R s m args below meth c H locs cells slots (CQ G below s M0 r M') (F0 m 224 ls [.int xs0, .int xs1, va_rf rs2]) := by
  obtain ⟨hx, hb, hml, hown, hrt, hlk, hex, hK, hRm⟩ := id F
  intro xs0 xs1 rs2 M H locs cells slots ls h hR hl
  unfold fM_doOther_224 at h
  obtain ⟨a_1, e_2, h⟩ := rz_d h
  rw [e_2]
  obtain ⟨c_3, h⟩ := rz_chk h
  obtain ⟨c_4, h⟩ := rz_chk h
  obtain ⟨M_5, q_6, h⟩ := rz_m h
  refine rg_iast hx hb hK hR c_3 c_4 dM_doOther_224 (fun H locs hR => ?_)
  rw [← q_6] at hR
  have c_7 : mK M_5 a_1 = 21 := by rw [q_6]; exact c_3
  exact tM_doOther_225 F hC _ _ _ _ _ _ h hR (lv_sub hl [] rfl)
def fM_doOther_145 (n d : Nat) (C : Cx) (x3 : Int32) (x4 : Int32) (xs0 : Int32) (rs1 : Option Nat) (M : Mem) : Rz := fM_doOther_224 n d C (x4 ||| x3) xs0 rs1 M
set_option maxRecDepth 100000 in
set_option maxHeartbeats 4000000 in
theorem tM_doOther_145 {n : Nat} (F : FX p s m meth c G R M0 d "HeadCountModel" bM_doOther 5 none) (hC : CBs l G d C) : ∀ (x3 : Int32) (x4 : Int32) (xs0 : Int32) (rs1 : Option Nat) (M : Mem) (H : Heap) (locs : List Loc) (cells slots : Nat) (ls : Array Slot), fM_doOther_145 n d C x3 x4 xs0 rs1 M = some (r, M') → RL G M0 M H locs cells slots → lv_has ls 5 [(3, .int x3), (4, .int x4)] → W p l e R s m args below meth c H locs cells slots (CQ G below s M0 r M') (F0 m 145 ls [.int xs0, va_rf rs1]) := by
  obtain ⟨hx, hb, hml, hown, hrt, hlk, hex, hK, hRm⟩ := id F
  intro x3 x4 xs0 rs1 M H locs cells slots ls h hR hl
  unfold fM_doOther_145 at h
  refine lv_iload hx hb dM_doOther_145 (lv_at hl 1 rfl) ?_
  refine lv_iload_n hx hb dM_doOther_147 rfl (lv_at hl 0 rfl) ?_
  refine lv_ior hx hb dM_doOther_148 ?_
  refine lv_goto (tgt := 224) hx hb dM_doOther_149 (by decide) ?_
  exact tM_doOther_224 F hC (x4 ||| x3) xs0 rs1 _ _ _ _ _ _ h hR (lv_sub hl [] rfl)
def fM_doOther_163 (n d : Nat) (C : Cx) (x3 : Int32) (x4 : Int32) (xs0 : Int32) (rs1 : Option Nat) (M : Mem) : Rz := fM_doOther_224 n d C (x4 &&& x3) xs0 rs1 M
set_option maxRecDepth 100000 in
set_option maxHeartbeats 4000000 in
theorem tM_doOther_163 {n : Nat} (F : FX p s m meth c G R M0 d "HeadCountModel" bM_doOther 5 none) (hC : CBs l G d C) : ∀ (x3 : Int32) (x4 : Int32) (xs0 : Int32) (rs1 : Option Nat) (M : Mem) (H : Heap) (locs : List Loc) (cells slots : Nat) (ls : Array Slot), fM_doOther_163 n d C x3 x4 xs0 rs1 M = some (r, M') → RL G M0 M H locs cells slots → lv_has ls 5 [(3, .int x3), (4, .int x4)] → W p l e R s m args below meth c H locs cells slots (CQ G below s M0 r M') (F0 m 163 ls [.int xs0, va_rf rs1]) := by
  obtain ⟨hx, hb, hml, hown, hrt, hlk, hex, hK, hRm⟩ := id F
  intro x3 x4 xs0 rs1 M H locs cells slots ls h hR hl
  unfold fM_doOther_163 at h
  refine lv_iload hx hb dM_doOther_163 (lv_at hl 1 rfl) ?_
  refine lv_iload_n hx hb dM_doOther_165 rfl (lv_at hl 0 rfl) ?_
  refine lv_iand hx hb dM_doOther_166 ?_
  refine lv_goto (tgt := 224) hx hb dM_doOther_167 (by decide) ?_
  exact tM_doOther_224 F hC (x4 &&& x3) xs0 rs1 _ _ _ _ _ _ h hR (lv_sub hl [] rfl)
def fM_doOther_0 (n d : Nat) (C : Cx) (a0 : Nat) (x1 : Int32) (M : Mem) : Rz := if mK M a0 = 5 then (if x1 = 23 then (fM_doOther_21 n d C a0 x1 ((1 <<< ((mI M a0 35) &&& 31)) - 1) M) else (if x1 = 24 then (fM_doOther_21 n d C a0 x1 ((1 <<< ((mI M a0 35) &&& 31)) - 1) M) else (if x1 = 9 then (rzD (mP M a0 39) fun a_34 => (if mK M a_34 = 21 then (if inA ((mI M a0 38) - 1) (mL M a_34) then (if inA ((mI M a0 38) - 1) (mL M a_34) then (rzM (setI M a_34 ((mI M a0 38) - 1).toNatClampNeg (((1 <<< ((mI M a0 35) &&& 31)) - 1) &&& ((mI M a_34 ((mI M a0 38) - 1).toNatClampNeg) ^^^ ((-1))))) fun M_39 => (fM_doOther_225 n d C M_39)) else none) else none) else none)) else (if x1 = 3 then (rzD (mP M a0 39) fun a_25 => (if mK M a_25 = 21 then (if inA ((mI M a0 38) - 1) (mL M a_25) then (if inA ((mI M a0 38) - 1) (mL M a_25) then (rzM (setI M a_25 ((mI M a0 38) - 1).toNatClampNeg (1 - (mI M a_25 ((mI M a0 38) - 1).toNatClampNeg))) fun M_30 => (fM_doOther_225 n d C M_30)) else none) else none) else none)) else (rzC (C 97 [.ref a0] M) fun v_6 M_7 => (rzI v_6 fun x_10 => (if mK M_7 a0 = 5 then (rzD (mP M_7 a0 39) fun a_12 => (if mK M_7 a_12 = 21 then (if inA ((mI M_7 a0 38) - 1) (mL M_7 a_12) then (if x1 = 7 then (fM_doOther_145 n d C x_10 (mI M_7 a_12 ((mI M_7 a0 38) - 1).toNatClampNeg) ((mI M_7 a0 38) - 1) (mP M_7 a0 39) M_7) else (if x1 = 1 then (fM_doOther_145 n d C x_10 (mI M_7 a_12 ((mI M_7 a0 38) - 1).toNatClampNeg) ((mI M_7 a0 38) - 1) (mP M_7 a0 39) M_7) else (if x1 = 8 then (fM_doOther_163 n d C x_10 (mI M_7 a_12 ((mI M_7 a0 38) - 1).toNatClampNeg) ((mI M_7 a0 38) - 1) (mP M_7 a0 39) M_7) else (if x1 = 2 then (fM_doOther_163 n d C x_10 (mI M_7 a_12 ((mI M_7 a0 38) - 1).toNatClampNeg) ((mI M_7 a0 38) - 1) (mP M_7 a0 39) M_7) else (if x1 = 20 then (if (mI M_7 a_12 ((mI M_7 a0 38) - 1).toNatClampNeg) = x_10 then (fM_doOther_224 n d C 1 ((mI M_7 a0 38) - 1) (mP M_7 a0 39) M_7) else (fM_doOther_224 n d C 0 ((mI M_7 a0 38) - 1) (mP M_7 a0 39) M_7)) else (if x1 = 19 then (if x_10 ≤ (mI M_7 a_12 ((mI M_7 a0 38) - 1).toNatClampNeg) then (fM_doOther_224 n d C 0 ((mI M_7 a0 38) - 1) (mP M_7 a0 39) M_7) else (fM_doOther_224 n d C 1 ((mI M_7 a0 38) - 1) (mP M_7 a0 39) M_7)) else (if ((mI M_7 a_12 ((mI M_7 a0 38) - 1).toNatClampNeg) &&& (x_10 ^^^ ((-1)))) = 0 then (fM_doOther_224 n d C 1 ((mI M_7 a0 38) - 1) (mP M_7 a0 39) M_7) else (fM_doOther_224 n d C 0 ((mI M_7 a0 38) - 1) (mP M_7 a0 39) M_7)))))))) else none) else none)) else none))))))) else none
set_option maxRecDepth 100000 in
set_option maxHeartbeats 4000000 in
theorem tM_doOther_0 {n : Nat} (F : FX p s m meth c G R M0 d "HeadCountModel" bM_doOther 5 none) (hC : CBs l G d C) : ∀ (a0 : Nat) (x1 : Int32) (M : Mem) (H : Heap) (locs : List Loc) (cells slots : Nat) (ls : Array Slot), fM_doOther_0 n d C a0 x1 M = some (r, M') → RL G M0 M H locs cells slots → lv_has ls 5 [(0, .ref a0), (1, .int x1)] → W p l e R s m args below meth c H locs cells slots (CQ G below s M0 r M') (F0 m 0 ls []) := by
  obtain ⟨hx, hb, hml, hown, hrt, hlk, hex, hK, hRm⟩ := id F
  intro a0 x1 M H locs cells slots ls h hR hl
  unfold fM_doOther_0 at h
  refine lv_iconst (v := 1) hx hb dM_doOther_0 (by decide) ?_
  refine lv_aload_n hx hb dM_doOther_1 rfl (lv_at hl 0 rfl) ?_
  obtain ⟨c_1, h⟩ := rz_chk h
  refine rg_getI hx hb hown hK hR hk_M 35 (by decide) kf_M_216 rfl c_1 dM_doOther_2 ?_
  refine lv_ishl hx hb dM_doOther_5 ?_
  refine lv_iconst (v := 1) hx hb dM_doOther_6 (by decide) ?_
  refine lv_isub hx hb dM_doOther_7 ?_
  refine lv_istore_n (lv' := [(2, .int ((1 <<< ((mI M a0 35) &&& 31)) - 1)), (0, .ref a0), (1, .int x1)]) hx hb dM_doOther_8 rfl hl (by decide) rfl (fun ls hl => ?_)
  refine lv_iload_n hx hb dM_doOther_9 rfl (lv_at hl 2 rfl) ?_
  refine lv_bipush (v := 23) hx hb dM_doOther_10 (by decide) ?_
  refine lv_icmp_eq (tgt := 21) hx hb dM_doOther_12 (by decide) (fun c_2 => ?_) (fun c_2 => ?_)
  · replace h := rz_t c_2 h
    exact tM_doOther_21 F hC a0 x1 ((1 <<< ((mI M a0 35) &&& 31)) - 1) _ _ _ _ _ _ h hR (lv_sub hl [1, 2, 0] rfl)
  · replace h := rz_f c_2 h
    refine lv_iload_n hx hb dM_doOther_15 rfl (lv_at hl 2 rfl) ?_
    refine lv_bipush (v := 24) hx hb dM_doOther_16 (by decide) ?_
    refine lv_icmp_ne (tgt := 39) hx hb dM_doOther_18 (by decide) (fun c_3 => ?_) (fun c_3 => ?_)
    · replace h := rz_f c_3 h
      refine lv_iload_n hx hb dM_doOther_39 rfl (lv_at hl 2 rfl) ?_
      refine lv_bipush (v := 9) hx hb dM_doOther_40 (by decide) ?_
      refine lv_icmp_ne (tgt := 74) hx hb dM_doOther_42 (by decide) (fun c_4 => ?_) (fun c_4 => ?_)
      · replace h := rz_f c_4 h
        refine lv_iload_n hx hb dM_doOther_74 rfl (lv_at hl 2 rfl) ?_
        refine lv_iconst (v := 3) hx hb dM_doOther_75 (by decide) ?_
        refine lv_icmp_ne (tgt := 106) hx hb dM_doOther_76 (by decide) (fun c_5 => ?_) (fun c_5 => ?_)
        · replace h := rz_f c_5 h
          refine lv_aload_n hx hb dM_doOther_106 rfl (lv_at hl 1 rfl) ?_
          obtain ⟨q_9, M_7, h_8, h⟩ := rz_c h
          refine rc_V (rest := []) (As := []) hx hb (hl.1.trans hml.symm) hown hK hR hRm mfM_pop kl_M_209 hk_M rfl rfl c_1 (by simp [cat_rf, cat_i, cat_a, cat_l, cat_n]) (hC 97 _ _ _ _ h_8) dM_doOther_107 (fun v1 H locs cells slots ev hR => ?_) (fun x1 q1 ce1 H locs cells slots ex hR g1 g2 g3 => ?_)
          · rcases h with ⟨v_6, ev2, h⟩ | ⟨e2, ee2, -⟩
            · cases ev.symm.trans ev2
              replace h := rz_i h
              obtain ⟨x_10, rfl, h⟩ := h
              dsimp only [Option.toList, List.cons_append, List.nil_append]
              refine lv_istore_n (lv' := [(3, .int x_10), (2, .int ((1 <<< ((mI M a0 35) &&& 31)) - 1)), (0, .ref a0), (1, .int x1)]) hx hb dM_doOther_110 rfl hl (by decide) rfl (fun ls hl => ?_)
              refine lv_aload_n hx hb dM_doOther_111 rfl (lv_at hl 2 rfl) ?_
              obtain ⟨c_11, h⟩ := rz_chk h
              refine rg_getP hx hb hown hK hR hk_M 39 (by decide) kf_M_57 rfl c_11 dM_doOther_112 ?_
              refine lv_aload_n hx hb dM_doOther_115 rfl (lv_at hl 2 rfl) ?_
              refine rg_getI hx hb hown hK hR hk_M 38 (by decide) kf_M_206 rfl c_11 dM_doOther_116 ?_
              refine lv_iconst (v := 1) hx hb dM_doOther_119 (by decide) ?_
              refine lv_isub hx hb dM_doOther_120 ?_
              obtain ⟨a_12, e_13, h⟩ := rz_d h
              rw [e_13]
              obtain ⟨c_14, h⟩ := rz_chk h
              obtain ⟨c_15, h⟩ := rz_chk h
              refine rg_iald hx hb hK hR c_14 c_15 dM_doOther_121 ?_
              refine lv_istore (lv' := [(4, .int (mI M_7 a_12 ((mI M_7 a0 38) - 1).toNatClampNeg)), (3, .int x_10), (2, .int ((1 <<< ((mI M a0 35) &&& 31)) - 1)), (0, .ref a0), (1, .int x1)]) hx hb dM_doOther_122 hl (by decide) rfl (fun ls hl => ?_)
              refine lv_aload_n hx hb dM_doOther_124 rfl (lv_at hl 3 rfl) ?_
              refine rg_getP hx hb hown hK hR hk_M 39 (by decide) kf_M_57 rfl c_11 dM_doOther_125 ?_
              refine lv_aload_n hx hb dM_doOther_128 rfl (lv_at hl 3 rfl) ?_
              refine rg_getI hx hb hown hK hR hk_M 38 (by decide) kf_M_206 rfl c_11 dM_doOther_129 ?_
              refine lv_iconst (v := 1) hx hb dM_doOther_132 (by decide) ?_
              refine lv_isub hx hb dM_doOther_133 ?_
              refine lv_iload_n hx hb dM_doOther_134 rfl (lv_at hl 4 rfl) ?_
              refine lv_bipush (v := 7) hx hb dM_doOther_135 (by decide) ?_
              refine lv_icmp_eq (tgt := 145) hx hb dM_doOther_137 (by decide) (fun c_16 => ?_) (fun c_16 => ?_)
              · replace h := rz_t c_16 h
                exact tM_doOther_145 F hC x_10 (mI M_7 a_12 ((mI M_7 a0 38) - 1).toNatClampNeg) ((mI M_7 a0 38) - 1) (mP M_7 a0 39) _ _ _ _ _ _ h hR (lv_sub hl [1, 0] rfl)
              · replace h := rz_f c_16 h
                refine lv_iload_n hx hb dM_doOther_140 rfl (lv_at hl 4 rfl) ?_
                refine lv_iconst (v := 1) hx hb dM_doOther_141 (by decide) ?_
                refine lv_icmp_ne (tgt := 152) hx hb dM_doOther_142 (by decide) (fun c_17 => ?_) (fun c_17 => ?_)
                · replace h := rz_f c_17 h
                  refine lv_iload_n hx hb dM_doOther_152 rfl (lv_at hl 4 rfl) ?_
                  refine lv_bipush (v := 8) hx hb dM_doOther_153 (by decide) ?_
                  refine lv_icmp_eq (tgt := 163) hx hb dM_doOther_155 (by decide) (fun c_18 => ?_) (fun c_18 => ?_)
                  · replace h := rz_t c_18 h
                    exact tM_doOther_163 F hC x_10 (mI M_7 a_12 ((mI M_7 a0 38) - 1).toNatClampNeg) ((mI M_7 a0 38) - 1) (mP M_7 a0 39) _ _ _ _ _ _ h hR (lv_sub hl [1, 0] rfl)
                  · replace h := rz_f c_18 h
                    refine lv_iload_n hx hb dM_doOther_158 rfl (lv_at hl 4 rfl) ?_
                    refine lv_iconst (v := 2) hx hb dM_doOther_159 (by decide) ?_
                    refine lv_icmp_ne (tgt := 170) hx hb dM_doOther_160 (by decide) (fun c_19 => ?_) (fun c_19 => ?_)
                    · replace h := rz_f c_19 h
                      refine lv_iload_n hx hb dM_doOther_170 rfl (lv_at hl 4 rfl) ?_
                      refine lv_bipush (v := 20) hx hb dM_doOther_171 (by decide) ?_
                      refine lv_icmp_ne (tgt := 190) hx hb dM_doOther_173 (by decide) (fun c_20 => ?_) (fun c_20 => ?_)
                      · replace h := rz_f c_20 h
                        refine lv_iload_n hx hb dM_doOther_190 rfl (lv_at hl 4 rfl) ?_
                        refine lv_bipush (v := 19) hx hb dM_doOther_191 (by decide) ?_
                        refine lv_icmp_ne (tgt := 210) hx hb dM_doOther_193 (by decide) (fun c_21 => ?_) (fun c_21 => ?_)
                        · replace h := rz_f c_21 h
                          refine lv_iload hx hb dM_doOther_210 (lv_at hl 0 rfl) ?_
                          refine lv_iload_n hx hb dM_doOther_212 rfl (lv_at hl 1 rfl) ?_
                          refine lv_iconst (v := (-1)) hx hb dM_doOther_213 (by decide) ?_
                          refine lv_ixor hx hb dM_doOther_214 ?_
                          refine lv_iand hx hb dM_doOther_215 ?_
                          refine lv_if_ne (tgt := 223) hx hb dM_doOther_216 (by decide) (fun c_22 => ?_) (fun c_22 => ?_)
                          · replace h := rz_f c_22 h
                            refine lv_iconst (v := 0) hx hb dM_doOther_223 (by decide) ?_
                            exact tM_doOther_224 F hC 0 ((mI M_7 a0 38) - 1) (mP M_7 a0 39) _ _ _ _ _ _ h hR (lv_sub hl [] rfl)
                          · replace h := rz_t c_22 h
                            refine lv_iconst (v := 1) hx hb dM_doOther_219 (by decide) ?_
                            refine lv_goto (tgt := 224) hx hb dM_doOther_220 (by decide) ?_
                            exact tM_doOther_224 F hC 1 ((mI M_7 a0 38) - 1) (mP M_7 a0 39) _ _ _ _ _ _ h hR (lv_sub hl [] rfl)
                        · replace h := rz_t c_21 h
                          refine lv_iload hx hb dM_doOther_196 (lv_at hl 0 rfl) ?_
                          refine lv_iload_n hx hb dM_doOther_198 rfl (lv_at hl 1 rfl) ?_
                          refine lv_icmp_ge (tgt := 206) hx hb dM_doOther_199 (by decide) (fun c_23 => ?_) (fun c_23 => ?_)
                          · replace h := rz_t c_23 h
                            refine lv_iconst (v := 0) hx hb dM_doOther_206 (by decide) ?_
                            refine lv_goto (tgt := 224) hx hb dM_doOther_207 (by decide) ?_
                            exact tM_doOther_224 F hC 0 ((mI M_7 a0 38) - 1) (mP M_7 a0 39) _ _ _ _ _ _ h hR (lv_sub hl [] rfl)
                          · replace h := rz_f c_23 h
                            refine lv_iconst (v := 1) hx hb dM_doOther_202 (by decide) ?_
                            refine lv_goto (tgt := 224) hx hb dM_doOther_203 (by decide) ?_
                            exact tM_doOther_224 F hC 1 ((mI M_7 a0 38) - 1) (mP M_7 a0 39) _ _ _ _ _ _ h hR (lv_sub hl [] rfl)
                      · replace h := rz_t c_20 h
                        refine lv_iload hx hb dM_doOther_176 (lv_at hl 0 rfl) ?_
                        refine lv_iload_n hx hb dM_doOther_178 rfl (lv_at hl 1 rfl) ?_
                        refine lv_icmp_ne (tgt := 186) hx hb dM_doOther_179 (by decide) (fun c_24 => ?_) (fun c_24 => ?_)
                        · replace h := rz_f c_24 h
                          refine lv_iconst (v := 0) hx hb dM_doOther_186 (by decide) ?_
                          refine lv_goto (tgt := 224) hx hb dM_doOther_187 (by decide) ?_
                          exact tM_doOther_224 F hC 0 ((mI M_7 a0 38) - 1) (mP M_7 a0 39) _ _ _ _ _ _ h hR (lv_sub hl [] rfl)
                        · replace h := rz_t c_24 h
                          refine lv_iconst (v := 1) hx hb dM_doOther_182 (by decide) ?_
                          refine lv_goto (tgt := 224) hx hb dM_doOther_183 (by decide) ?_
                          exact tM_doOther_224 F hC 1 ((mI M_7 a0 38) - 1) (mP M_7 a0 39) _ _ _ _ _ _ h hR (lv_sub hl [] rfl)
                    · replace h := rz_t c_19 h
                      exact tM_doOther_163 F hC x_10 (mI M_7 a_12 ((mI M_7 a0 38) - 1).toNatClampNeg) ((mI M_7 a0 38) - 1) (mP M_7 a0 39) _ _ _ _ _ _ h hR (lv_sub hl [1, 0] rfl)
                · replace h := rz_t c_17 h
                  exact tM_doOther_145 F hC x_10 (mI M_7 a_12 ((mI M_7 a0 38) - 1).toNatClampNeg) ((mI M_7 a0 38) - 1) (mP M_7 a0 39) _ _ _ _ _ _ h hR (lv_sub hl [1, 0] rfl)
            · cases ev.symm.trans ee2
          · rcases h with ⟨v2, ev2, -⟩ | ⟨e2, ee2, h⟩
            · cases ex.symm.trans ev2
            · cases ex.symm.trans ee2
              cases h
              exact rt_x hlk hex hR g1 g2 g3
        · replace h := rz_t c_5 h
          refine lv_aload_n hx hb dM_doOther_79 rfl (lv_at hl 1 rfl) ?_
          refine rg_getP hx hb hown hK hR hk_M 39 (by decide) kf_M_57 rfl c_1 dM_doOther_80 ?_
          refine lv_aload_n hx hb dM_doOther_83 rfl (lv_at hl 1 rfl) ?_
          refine rg_getI hx hb hown hK hR hk_M 38 (by decide) kf_M_206 rfl c_1 dM_doOther_84 ?_
          refine lv_iconst (v := 1) hx hb dM_doOther_87 (by decide) ?_
          refine lv_isub hx hb dM_doOther_88 ?_
          refine lv_iconst (v := 1) hx hb dM_doOther_89 (by decide) ?_
          refine lv_aload_n hx hb dM_doOther_90 rfl (lv_at hl 1 rfl) ?_
          refine rg_getP hx hb hown hK hR hk_M 39 (by decide) kf_M_57 rfl c_1 dM_doOther_91 ?_
          refine lv_aload_n hx hb dM_doOther_94 rfl (lv_at hl 1 rfl) ?_
          refine rg_getI hx hb hown hK hR hk_M 38 (by decide) kf_M_206 rfl c_1 dM_doOther_95 ?_
          refine lv_iconst (v := 1) hx hb dM_doOther_98 (by decide) ?_
          refine lv_isub hx hb dM_doOther_99 ?_
          obtain ⟨a_25, e_26, h⟩ := rz_d h
          rw [e_26]
          obtain ⟨c_27, h⟩ := rz_chk h
          obtain ⟨c_28, h⟩ := rz_chk h
          refine rg_iald hx hb hK hR c_27 c_28 dM_doOther_100 ?_
          refine lv_isub hx hb dM_doOther_101 ?_
          obtain ⟨c_29, h⟩ := rz_chk h
          obtain ⟨M_30, q_31, h⟩ := rz_m h
          refine rg_iast hx hb hK hR c_27 c_29 dM_doOther_102 (fun H locs hR => ?_)
          rw [← q_31] at hR
          have c_32 : mK M_30 a0 = 5 := by rw [q_31]; exact c_1
          have c_33 : mK M_30 a_25 = 21 := by rw [q_31]; exact c_27
          refine lv_goto (tgt := 225) hx hb dM_doOther_103 (by decide) ?_
          exact tM_doOther_225 F hC _ _ _ _ _ _ h hR (lv_sub hl [] rfl)
      · replace h := rz_t c_4 h
        refine lv_aload_n hx hb dM_doOther_45 rfl (lv_at hl 1 rfl) ?_
        refine rg_getP hx hb hown hK hR hk_M 39 (by decide) kf_M_57 rfl c_1 dM_doOther_46 ?_
        refine lv_aload_n hx hb dM_doOther_49 rfl (lv_at hl 1 rfl) ?_
        refine rg_getI hx hb hown hK hR hk_M 38 (by decide) kf_M_206 rfl c_1 dM_doOther_50 ?_
        refine lv_iconst (v := 1) hx hb dM_doOther_53 (by decide) ?_
        refine lv_isub hx hb dM_doOther_54 ?_
        refine lv_iload_n hx hb dM_doOther_55 rfl (lv_at hl 0 rfl) ?_
        refine lv_aload_n hx hb dM_doOther_56 rfl (lv_at hl 1 rfl) ?_
        refine rg_getP hx hb hown hK hR hk_M 39 (by decide) kf_M_57 rfl c_1 dM_doOther_57 ?_
        refine lv_aload_n hx hb dM_doOther_60 rfl (lv_at hl 1 rfl) ?_
        refine rg_getI hx hb hown hK hR hk_M 38 (by decide) kf_M_206 rfl c_1 dM_doOther_61 ?_
        refine lv_iconst (v := 1) hx hb dM_doOther_64 (by decide) ?_
        refine lv_isub hx hb dM_doOther_65 ?_
        obtain ⟨a_34, e_35, h⟩ := rz_d h
        rw [e_35]
        obtain ⟨c_36, h⟩ := rz_chk h
        obtain ⟨c_37, h⟩ := rz_chk h
        refine rg_iald hx hb hK hR c_36 c_37 dM_doOther_66 ?_
        refine lv_iconst (v := (-1)) hx hb dM_doOther_67 (by decide) ?_
        refine lv_ixor hx hb dM_doOther_68 ?_
        refine lv_iand hx hb dM_doOther_69 ?_
        obtain ⟨c_38, h⟩ := rz_chk h
        obtain ⟨M_39, q_40, h⟩ := rz_m h
        refine rg_iast hx hb hK hR c_36 c_38 dM_doOther_70 (fun H locs hR => ?_)
        rw [← q_40] at hR
        have c_41 : mK M_39 a0 = 5 := by rw [q_40]; exact c_1
        have c_42 : mK M_39 a_34 = 21 := by rw [q_40]; exact c_36
        refine lv_goto (tgt := 225) hx hb dM_doOther_71 (by decide) ?_
        exact tM_doOther_225 F hC _ _ _ _ _ _ h hR (lv_sub hl [] rfl)
    · replace h := rz_t c_3 h
      exact tM_doOther_21 F hC a0 x1 ((1 <<< ((mI M a0 35) &&& 31)) - 1) _ _ _ _ _ _ h hR (lv_sub hl [1, 2, 0] rfl)
set_option maxRecDepth 100000 in
set_option maxHeartbeats 4000000 in
theorem sM_doOther {l : Launch} {G : Gx} {n d : Nat} {C : Cx} (hC : CBs l G d C) (a0 : Nat) (x1 : Int32) {M M' : Mem} {r : Option Value ⊕ Nat} (h : fM_doOther_0 n d C a0 x1 M = some (r, M')) : CB l G (d + 1) yM_doOther [.ref a0, .int x1] M r M' := by
  intro p e R s m below meth c hx hn hm hc hlk hK hR hcap hS hU hfr hlo hrc hrs
  obtain ⟨hb, hml, hrt, hex, hown⟩ := fx_of hn hm hc (hK.w mfM_doOther.2.2.1 rfl #[])
  have F : FX p s m meth c G R M d "HeadCountModel" bM_doOther 5 none := ⟨hx, hb, hml, hown, hrt, hlk, hex, hK, hfr, hlo, by rw [← hcap]; exact hrc, hrs⟩
  rw [hml]
  have hl := lv_entry ([.ref a0, .int x1]) (n := 5) (by simp [lg_sl, cat_rf, cat_i, cat_a, cat_l, cat_n])
  rw [lg_entry_eq]
  generalize (lg_sl ([.ref a0, .int x1]) ++ List.replicate (5 - (lg_sl ([.ref a0, .int x1])).length) Slot.unset).toArray = ls at hl ⊢
  have hl : lv_has ls 5 [(0, .ref a0), (1, .int x1)] := by simpa [lv_args, cat_rf, cat_i, cat_a, cat_l, cat_n] using hl
  exact tM_doOther_0 F hC a0 x1 _ _ _ _ _ _ h (RL.start hR hcap hS hU) (lv_sub hl [0, 1] rfl)
def fM_fails_45 (n d : Nat) (C : Cx) (k20 : Nat → Int32 → Int32 → Mem → Rz) (a0 : Nat) (x2 : Int32) (xs0 : Int32) (M : Mem) : Rz := k20 a0 xs0 (x2 + (-1)) M
set_option maxRecDepth 100000 in
set_option maxHeartbeats 4000000 in
theorem tM_fails_45 {n : Nat} {k20 : Nat → Int32 → Int32 → Mem → Rz} (F : FX p s m meth c G R M0 d "HeadCountModel" bM_fails 3 (some .int)) (hC : CBs l G d C) (hk20 : ∀ (a0 : Nat) (x1 : Int32) (x2 : Int32) (M : Mem) (H : Heap) (locs : List Loc) (cells slots : Nat) (ls : Array Slot), k20 a0 x1 x2 M = some (r, M') → RL G M0 M H locs cells slots → lv_has ls 3 [(0, .ref a0), (1, .int x1), (2, .int x2)] → W p l e R s m args below meth c H locs cells slots (CQ G below s M0 r M') (F0 m 20 ls [])) : ∀ (a0 : Nat) (x2 : Int32) (xs0 : Int32) (M : Mem) (H : Heap) (locs : List Loc) (cells slots : Nat) (ls : Array Slot), fM_fails_45 n d C k20 a0 x2 xs0 M = some (r, M') → RL G M0 M H locs cells slots → lv_has ls 3 [(0, .ref a0), (2, .int x2)] → W p l e R s m args below meth c H locs cells slots (CQ G below s M0 r M') (F0 m 45 ls [.int xs0]) := by
  obtain ⟨hx, hb, hml, hown, hrt, hlk, hex, hK, hRm⟩ := id F
  intro a0 x2 xs0 M H locs cells slots ls h hR hl
  unfold fM_fails_45 at h
  refine lv_istore_n (lv' := [(1, .int xs0), (0, .ref a0), (2, .int x2)]) hx hb dM_fails_45 rfl hl (by decide) rfl (fun ls hl => ?_)
  refine lv_iinc (k := 2) (v := x2 + (-1)) (lv' := [(2, .int (x2 + (-1))), (1, .int xs0), (0, .ref a0)]) hx hb dM_fails_46 hl rfl (by rw [show Int32.ofInt (-1) = (-1) from by decide]) (by decide) rfl (fun ls hl => ?_)
  refine lv_goto (tgt := 20) hx hb dM_fails_49 (by decide) ?_
  exact hk20 a0 xs0 (x2 + (-1)) _ _ _ _ _ _ h hR (lv_sub hl [2, 1, 0] rfl)
def fM_fails_64 (n d : Nat) (C : Cx) (xs0 : Int32) (M : Mem) : Rz := some (.inl (some (.int xs0)), M)
set_option maxRecDepth 100000 in
set_option maxHeartbeats 4000000 in
theorem tM_fails_64 {n : Nat} (F : FX p s m meth c G R M0 d "HeadCountModel" bM_fails 3 (some .int)) (hC : CBs l G d C) : ∀ (xs0 : Int32) (M : Mem) (H : Heap) (locs : List Loc) (cells slots : Nat) (ls : Array Slot), fM_fails_64 n d C xs0 M = some (r, M') → RL G M0 M H locs cells slots → lv_has ls 3 [] → W p l e R s m args below meth c H locs cells slots (CQ G below s M0 r M') (F0 m 64 ls [.int xs0]) := by
  obtain ⟨hx, hb, hml, hown, hrt, hlk, hex, hK, hRm⟩ := id F
  intro xs0 M H locs cells slots ls h hR hl
  unfold fM_fails_64 at h
  cases h
  exact rt_i hx hb hlk hrt (Or.inl rfl) rfl hR dM_fails_64
def fM_fails_52 (n d : Nat) (C : Cx) (a0 : Nat) (x1 : Int32) (M : Mem) : Rz := if mK M a0 = 5 then (if (mI M a0 0) = 0 then (fM_fails_64 n d C x1 M) else (fM_fails_64 n d C 0 M)) else none
set_option maxRecDepth 100000 in
set_option maxHeartbeats 4000000 in
theorem tM_fails_52 {n : Nat} (F : FX p s m meth c G R M0 d "HeadCountModel" bM_fails 3 (some .int)) (hC : CBs l G d C) : ∀ (a0 : Nat) (x1 : Int32) (M : Mem) (H : Heap) (locs : List Loc) (cells slots : Nat) (ls : Array Slot), fM_fails_52 n d C a0 x1 M = some (r, M') → RL G M0 M H locs cells slots → lv_has ls 3 [(0, .ref a0), (1, .int x1)] → W p l e R s m args below meth c H locs cells slots (CQ G below s M0 r M') (F0 m 52 ls []) := by
  obtain ⟨hx, hb, hml, hown, hrt, hlk, hex, hK, hRm⟩ := id F
  intro a0 x1 M H locs cells slots ls h hR hl
  unfold fM_fails_52 at h
  refine lv_aload_n hx hb dM_fails_52 rfl (lv_at hl 0 rfl) ?_
  obtain ⟨c_1, h⟩ := rz_chk h
  refine rg_getI hx hb hown hK hR hk_M 0 (by decide) kf_M_60 rfl c_1 dM_fails_53 ?_
  refine lv_if_ne (tgt := 63) hx hb dM_fails_56 (by decide) (fun c_2 => ?_) (fun c_2 => ?_)
  · replace h := rz_f c_2 h
    refine lv_iconst (v := 0) hx hb dM_fails_63 (by decide) ?_
    exact tM_fails_64 F hC 0 _ _ _ _ _ _ h hR (lv_sub hl [] rfl)
  · replace h := rz_t c_2 h
    refine lv_iload_n hx hb dM_fails_59 rfl (lv_at hl 1 rfl) ?_
    refine lv_goto (tgt := 64) hx hb dM_fails_60 (by decide) ?_
    exact tM_fails_64 F hC x1 _ _ _ _ _ _ h hR (lv_sub hl [] rfl)
def fM_fails_20 (n d : Nat) (C : Cx) : Nat → Nat → Int32 → Int32 → Mem → Rz
  | 0, _, _, _, _ => none
  | w + 1, a0, x1, x2, M => if x2 < 0 then (fM_fails_52 n d C a0 x1 M) else (if mK M a0 = 5 then (if (mI M a0 0) = 0 then (rzC (C 96 [.ref a0, .int x2, .int 0] M) fun v_4 M_5 => (rzI v_4 fun x_8 => (if x_8 = 0 then (fM_fails_45 n d C (fM_fails_20 n d C w) a0 x2 x2 M_5) else (fM_fails_45 n d C (fM_fails_20 n d C w) a0 x2 x1 M_5)))) else (fM_fails_52 n d C a0 x1 M)) else none)
set_option maxRecDepth 100000 in
set_option maxHeartbeats 4000000 in
theorem tM_fails_20 {n : Nat} (F : FX p s m meth c G R M0 d "HeadCountModel" bM_fails 3 (some .int)) (hC : CBs l G d C) : ∀ (w : Nat) (a0 : Nat) (x1 : Int32) (x2 : Int32) (M : Mem) (H : Heap) (locs : List Loc) (cells slots : Nat) (ls : Array Slot), fM_fails_20 n d C w a0 x1 x2 M = some (r, M') → RL G M0 M H locs cells slots → lv_has ls 3 [(0, .ref a0), (1, .int x1), (2, .int x2)] → W p l e R s m args below meth c H locs cells slots (CQ G below s M0 r M') (F0 m 20 ls []) := by
  obtain ⟨hx, hb, hml, hown, hrt, hlk, hex, hK, hRm⟩ := id F
  intro w
  induction w with
  | zero => intro a0 x1 x2 M H locs cells slots ls h; cases h
  | succ w ih =>
    intro a0 x1 x2 M H locs cells slots ls h hR hl
    rw [fM_fails_20] at h
    refine lv_iload_n hx hb dM_fails_20 rfl (lv_at hl 2 rfl) ?_
    refine lv_if_lt (tgt := 52) hx hb dM_fails_21 (by decide) (fun c_1 => ?_) (fun c_1 => ?_)
    · replace h := rz_t c_1 h
      exact tM_fails_52 F hC a0 x1 _ _ _ _ _ _ h hR (lv_sub hl [0, 1] rfl)
    · replace h := rz_f c_1 h
      refine lv_aload_n hx hb dM_fails_24 rfl (lv_at hl 0 rfl) ?_
      obtain ⟨c_2, h⟩ := rz_chk h
      refine rg_getI hx hb hown hK hR hk_M 0 (by decide) kf_M_60 rfl c_2 dM_fails_25 ?_
      refine lv_if_ne (tgt := 52) hx hb dM_fails_28 (by decide) (fun c_3 => ?_) (fun c_3 => ?_)
      · replace h := rz_f c_3 h
        exact tM_fails_52 F hC a0 x1 _ _ _ _ _ _ h hR (lv_sub hl [0, 1] rfl)
      · replace h := rz_t c_3 h
        refine lv_aload_n hx hb dM_fails_31 rfl (lv_at hl 0 rfl) ?_
        refine lv_iload_n hx hb dM_fails_32 rfl (lv_at hl 2 rfl) ?_
        refine lv_iconst (v := 0) hx hb dM_fails_33 (by decide) ?_
        obtain ⟨q_7, M_5, h_6, h⟩ := rz_c h
        refine rc_V (rest := []) (As := [.int x2, .int 0]) hx hb (hl.1.trans hml.symm) hown hK hR hRm mfM_run kl_M_241 hk_M rfl rfl c_2 (by simp [cat_rf, cat_i, cat_a, cat_l, cat_n]) (hC 96 _ _ _ _ h_6) dM_fails_34 (fun v1 H locs cells slots ev hR => ?_) (fun x1 q1 ce1 H locs cells slots ex hR g1 g2 g3 => ?_)
        · rcases h with ⟨v_4, ev2, h⟩ | ⟨e2, ee2, -⟩
          · cases ev.symm.trans ev2
            replace h := rz_i h
            obtain ⟨x_8, rfl, h⟩ := h
            dsimp only [Option.toList, List.cons_append, List.nil_append]
            refine lv_if_eq (tgt := 44) hx hb dM_fails_37 (by decide) (fun c_9 => ?_) (fun c_9 => ?_)
            · replace h := rz_t c_9 h
              refine lv_iload_n hx hb dM_fails_44 rfl (lv_at hl 2 rfl) ?_
              exact tM_fails_45 F hC ih a0 x2 x2 _ _ _ _ _ _ h hR (lv_sub hl [0, 2] rfl)
            · replace h := rz_f c_9 h
              refine lv_iload_n hx hb dM_fails_40 rfl (lv_at hl 1 rfl) ?_
              refine lv_goto (tgt := 45) hx hb dM_fails_41 (by decide) ?_
              exact tM_fails_45 F hC ih a0 x2 x1 _ _ _ _ _ _ h hR (lv_sub hl [0, 2] rfl)
          · cases ev.symm.trans ee2
        · rcases h with ⟨v2, ev2, -⟩ | ⟨e2, ee2, h⟩
          · cases ex.symm.trans ev2
          · cases ex.symm.trans ee2
            cases h
            exact rt_x hlk hex hR g1 g2 g3
def fM_fails_13 (n d : Nat) (C : Cx) (a0 : Nat) (xs0 : Int32) (as1 : Nat) (M : Mem) : Rz := if mK M as1 = 5 then (rzM (setI M as1 0 xs0) fun M_2 => (fM_fails_20 n d C n a0 ((-1)) 4 M_2)) else none
set_option maxRecDepth 100000 in
set_option maxHeartbeats 4000000 in
theorem tM_fails_13 {n : Nat} (F : FX p s m meth c G R M0 d "HeadCountModel" bM_fails 3 (some .int)) (hC : CBs l G d C) : ∀ (a0 : Nat) (xs0 : Int32) (as1 : Nat) (M : Mem) (H : Heap) (locs : List Loc) (cells slots : Nat) (ls : Array Slot), fM_fails_13 n d C a0 xs0 as1 M = some (r, M') → RL G M0 M H locs cells slots → lv_has ls 3 [(0, .ref a0)] → W p l e R s m args below meth c H locs cells slots (CQ G below s M0 r M') (F0 m 13 ls [.int xs0, .ref as1]) := by
  obtain ⟨hx, hb, hml, hown, hrt, hlk, hex, hK, hRm⟩ := id F
  intro a0 xs0 as1 M H locs cells slots ls h hR hl
  unfold fM_fails_13 at h
  obtain ⟨c_1, h⟩ := rz_chk h
  obtain ⟨M_2, q_3, h⟩ := rz_m h
  refine rg_putI hx hb hown hK hR hk_M 0 (by decide) kf_M_60 rfl rfl (ty := .int) (by decide +kernel) (Or.inl rfl) rfl c_1 dM_fails_13 (fun H locs hR => ?_)
  rw [← q_3] at hR
  have c_4 : mK M_2 as1 = 5 := by rw [q_3]; exact c_1
  refine lv_iconst (v := (-1)) hx hb dM_fails_16 (by decide) ?_
  refine lv_istore_n (lv' := [(1, .int ((-1))), (0, .ref a0)]) hx hb dM_fails_17 rfl hl (by decide) rfl (fun ls hl => ?_)
  refine lv_iconst (v := 4) hx hb dM_fails_18 (by decide) ?_
  refine lv_istore_n (lv' := [(2, .int 4), (1, .int ((-1))), (0, .ref a0)]) hx hb dM_fails_19 rfl hl (by decide) rfl (fun ls hl => ?_)
  exact tM_fails_20 F hC n a0 ((-1)) 4 _ _ _ _ _ _ h hR (lv_sub hl [2, 1, 0] rfl)
def fM_fails_0 (n d : Nat) (C : Cx) (a0 : Nat) (M : Mem) : Rz := if mK M a0 = 5 then (if (mI M a0 3) = 0 then (fM_fails_13 n d C a0 1 a0 M) else (fM_fails_13 n d C a0 0 a0 M)) else none
set_option maxRecDepth 100000 in
set_option maxHeartbeats 4000000 in
theorem tM_fails_0 {n : Nat} (F : FX p s m meth c G R M0 d "HeadCountModel" bM_fails 3 (some .int)) (hC : CBs l G d C) : ∀ (a0 : Nat) (M : Mem) (H : Heap) (locs : List Loc) (cells slots : Nat) (ls : Array Slot), fM_fails_0 n d C a0 M = some (r, M') → RL G M0 M H locs cells slots → lv_has ls 3 [(0, .ref a0)] → W p l e R s m args below meth c H locs cells slots (CQ G below s M0 r M') (F0 m 0 ls []) := by
  obtain ⟨hx, hb, hml, hown, hrt, hlk, hex, hK, hRm⟩ := id F
  intro a0 M H locs cells slots ls h hR hl
  unfold fM_fails_0 at h
  refine lv_aload_n hx hb dM_fails_0 rfl (lv_at hl 0 rfl) ?_
  refine lv_aload_n hx hb dM_fails_1 rfl (lv_at hl 0 rfl) ?_
  obtain ⟨c_1, h⟩ := rz_chk h
  refine rg_getI hx hb hown hK hR hk_M 3 (by decide) kf_M_194 rfl c_1 dM_fails_2 ?_
  refine lv_if_eq (tgt := 12) hx hb dM_fails_5 (by decide) (fun c_2 => ?_) (fun c_2 => ?_)
  · replace h := rz_t c_2 h
    refine lv_iconst (v := 1) hx hb dM_fails_12 (by decide) ?_
    exact tM_fails_13 F hC a0 1 a0 _ _ _ _ _ _ h hR (lv_sub hl [0] rfl)
  · replace h := rz_f c_2 h
    refine lv_iconst (v := 0) hx hb dM_fails_8 (by decide) ?_
    refine lv_goto (tgt := 13) hx hb dM_fails_9 (by decide) ?_
    exact tM_fails_13 F hC a0 0 a0 _ _ _ _ _ _ h hR (lv_sub hl [0] rfl)
set_option maxRecDepth 100000 in
set_option maxHeartbeats 4000000 in
theorem sM_fails {l : Launch} {G : Gx} {n d : Nat} {C : Cx} (hC : CBs l G d C) (a0 : Nat) {M M' : Mem} {r : Option Value ⊕ Nat} (h : fM_fails_0 n d C a0 M = some (r, M')) : CB l G (d + 1) yM_fails [.ref a0] M r M' := by
  intro p e R s m below meth c hx hn hm hc hlk hK hR hcap hS hU hfr hlo hrc hrs
  obtain ⟨hb, hml, hrt, hex, hown⟩ := fx_of hn hm hc (hK.w mfM_fails.2.2.1 rfl #[])
  have F : FX p s m meth c G R M d "HeadCountModel" bM_fails 3 (some .int) := ⟨hx, hb, hml, hown, hrt, hlk, hex, hK, hfr, hlo, by rw [← hcap]; exact hrc, hrs⟩
  rw [hml]
  have hl := lv_entry ([.ref a0]) (n := 3) (by simp [lg_sl, cat_rf, cat_i, cat_a, cat_l, cat_n])
  rw [lg_entry_eq]
  generalize (lg_sl ([.ref a0]) ++ List.replicate (3 - (lg_sl ([.ref a0])).length) Slot.unset).toArray = ls at hl ⊢
  have hl : lv_has ls 3 [(0, .ref a0)] := by simpa [lv_args, cat_rf, cat_i, cat_a, cat_l, cat_n] using hl
  exact tM_fails_0 F hC a0 _ _ _ _ _ _ h (RL.start hR hcap hS hU) (lv_sub hl [0] rfl)
def fM_ways_68 (n d : Nat) (C : Cx) (xs0 : Int32) (M : Mem) : Rz := some (.inl (some (.int xs0)), M)
set_option maxRecDepth 100000 in
set_option maxHeartbeats 4000000 in
theorem tM_ways_68 {n : Nat} (F : FX p s m meth c G R M0 d "HeadCountModel" bM_ways 4 (some .int)) (hC : CBs l G d C) : ∀ (xs0 : Int32) (M : Mem) (H : Heap) (locs : List Loc) (cells slots : Nat) (ls : Array Slot), fM_ways_68 n d C xs0 M = some (r, M') → RL G M0 M H locs cells slots → lv_has ls 4 [] → W p l e R s m args below meth c H locs cells slots (CQ G below s M0 r M') (F0 m 68 ls [.int xs0]) := by
  obtain ⟨hx, hb, hml, hown, hrt, hlk, hex, hK, hRm⟩ := id F
  intro xs0 M H locs cells slots ls h hR hl
  unfold fM_ways_68 at h
  cases h
  exact rt_i hx hb hlk hrt (Or.inl rfl) rfl hR dM_ways_68
def fM_ways_24 (n d : Nat) (C : Cx) (a0 : Nat) (x1 : Int32) (xs0 : Int32) (as1 : Nat) (M : Mem) : Rz := if mK M as1 = 5 then (rzM (setI M as1 0 xs0) fun M_2 => (if mK M_2 a0 = 5 then (if (mI M_2 a0 0) ≤ 0 then (rzC (C 106 [.ref a0] M_2) fun v_7 M_8 => (rzI v_7 fun x_11 => (if mK M_8 a0 = 5 then (rzC (C 96 [.ref a0, .int x1, .int x_11] M_8) fun v_13 M_14 => (rzI v_13 fun x_17 => (if x_11 = 0 then (if x_17 = 0 then (fM_ways_68 n d C 0 M_14) else (fM_ways_68 n d C 1 M_14)) else (if mK M_14 a0 = 5 then (fM_ways_68 n d C (mI M_14 a0 40) M_14) else none)))) else none))) else (some (.inl (some (.int 0)), M_2))) else none)) else none
set_option maxRecDepth 100000 in
set_option maxHeartbeats 4000000 in
theorem tM_ways_24 {n : Nat} (F : FX p s m meth c G R M0 d "HeadCountModel" bM_ways 4 (some .int)) (hC : CBs l G d C) : ∀ (a0 : Nat) (x1 : Int32) (xs0 : Int32) (as1 : Nat) (M : Mem) (H : Heap) (locs : List Loc) (cells slots : Nat) (ls : Array Slot), fM_ways_24 n d C a0 x1 xs0 as1 M = some (r, M') → RL G M0 M H locs cells slots → lv_has ls 4 [(0, .ref a0), (1, .int x1)] → W p l e R s m args below meth c H locs cells slots (CQ G below s M0 r M') (F0 m 24 ls [.int xs0, .ref as1]) := by
  obtain ⟨hx, hb, hml, hown, hrt, hlk, hex, hK, hRm⟩ := id F
  intro a0 x1 xs0 as1 M H locs cells slots ls h hR hl
  unfold fM_ways_24 at h
  obtain ⟨c_1, h⟩ := rz_chk h
  obtain ⟨M_2, q_3, h⟩ := rz_m h
  refine rg_putI hx hb hown hK hR hk_M 0 (by decide) kf_M_60 rfl rfl (ty := .int) (by decide +kernel) (Or.inl rfl) rfl c_1 dM_ways_24 (fun H locs hR => ?_)
  rw [← q_3] at hR
  have c_4 : mK M_2 as1 = 5 := by rw [q_3]; exact c_1
  refine lv_aload_n hx hb dM_ways_27 rfl (lv_at hl 0 rfl) ?_
  obtain ⟨c_5, h⟩ := rz_chk h
  refine rg_getI hx hb hown hK hR hk_M 0 (by decide) kf_M_60 rfl c_5 dM_ways_28 ?_
  refine lv_if_le (tgt := 36) hx hb dM_ways_31 (by decide) (fun c_6 => ?_) (fun c_6 => ?_)
  · replace h := rz_t c_6 h
    refine lv_aload_n hx hb dM_ways_36 rfl (lv_at hl 0 rfl) ?_
    obtain ⟨q_10, M_8, h_9, h⟩ := rz_c h
    refine rc_V (rest := []) (As := []) hx hb (hl.1.trans hml.symm) hown hK hR hRm mfM_isLoop kl_M_245 hk_M rfl rfl c_5 (by simp [cat_rf, cat_i, cat_a, cat_l, cat_n]) (hC 106 _ _ _ _ h_9) dM_ways_37 (fun v1 H locs cells slots ev hR => ?_) (fun x1 q1 ce1 H locs cells slots ex hR g1 g2 g3 => ?_)
    · rcases h with ⟨v_7, ev2, h⟩ | ⟨e2, ee2, -⟩
      · cases ev.symm.trans ev2
        replace h := rz_i h
        obtain ⟨x_11, rfl, h⟩ := h
        dsimp only [Option.toList, List.cons_append, List.nil_append]
        refine lv_istore_n (lv' := [(2, .int x_11), (0, .ref a0), (1, .int x1)]) hx hb dM_ways_40 rfl hl (by decide) rfl (fun ls hl => ?_)
        refine lv_aload_n hx hb dM_ways_41 rfl (lv_at hl 1 rfl) ?_
        refine lv_iload_n hx hb dM_ways_42 rfl (lv_at hl 2 rfl) ?_
        refine lv_iload_n hx hb dM_ways_43 rfl (lv_at hl 0 rfl) ?_
        obtain ⟨c_12, h⟩ := rz_chk h
        obtain ⟨q_16, M_14, h_15, h⟩ := rz_c h
        refine rc_V (rest := []) (As := [.int x1, .int x_11]) hx hb (hl.1.trans hml.symm) hown hK hR hRm mfM_run kl_M_241 hk_M rfl rfl c_12 (by simp [cat_rf, cat_i, cat_a, cat_l, cat_n]) (hC 96 _ _ _ _ h_15) dM_ways_44 (fun v1 H locs cells slots ev hR => ?_) (fun x1 q1 ce1 H locs cells slots ex hR g1 g2 g3 => ?_)
        · rcases h with ⟨v_13, ev2, h⟩ | ⟨e2, ee2, -⟩
          · cases ev.symm.trans ev2
            replace h := rz_i h
            obtain ⟨x_17, rfl, h⟩ := h
            dsimp only [Option.toList, List.cons_append, List.nil_append]
            refine lv_istore_n (lv' := [(3, .int x_17), (2, .int x_11), (0, .ref a0), (1, .int x1)]) hx hb dM_ways_47 rfl hl (by decide) rfl (fun ls hl => ?_)
            refine lv_iload_n hx hb dM_ways_48 rfl (lv_at hl 1 rfl) ?_
            refine lv_if_eq (tgt := 59) hx hb dM_ways_49 (by decide) (fun c_18 => ?_) (fun c_18 => ?_)
            · replace h := rz_t c_18 h
              refine lv_iload_n hx hb dM_ways_59 rfl (lv_at hl 0 rfl) ?_
              refine lv_if_eq (tgt := 67) hx hb dM_ways_60 (by decide) (fun c_19 => ?_) (fun c_19 => ?_)
              · replace h := rz_t c_19 h
                refine lv_iconst (v := 0) hx hb dM_ways_67 (by decide) ?_
                exact tM_ways_68 F hC 0 _ _ _ _ _ _ h hR (lv_sub hl [] rfl)
              · replace h := rz_f c_19 h
                refine lv_iconst (v := 1) hx hb dM_ways_63 (by decide) ?_
                refine lv_goto (tgt := 68) hx hb dM_ways_64 (by decide) ?_
                exact tM_ways_68 F hC 1 _ _ _ _ _ _ h hR (lv_sub hl [] rfl)
            · replace h := rz_f c_18 h
              refine lv_aload_n hx hb dM_ways_52 rfl (lv_at hl 2 rfl) ?_
              obtain ⟨c_20, h⟩ := rz_chk h
              refine rg_getI hx hb hown hK hR hk_M 40 (by decide) kf_M_222 rfl c_20 dM_ways_53 ?_
              refine lv_goto (tgt := 68) hx hb dM_ways_56 (by decide) ?_
              exact tM_ways_68 F hC (mI M_14 a0 40) _ _ _ _ _ _ h hR (lv_sub hl [] rfl)
          · cases ev.symm.trans ee2
        · rcases h with ⟨v2, ev2, -⟩ | ⟨e2, ee2, h⟩
          · cases ex.symm.trans ev2
          · cases ex.symm.trans ee2
            cases h
            exact rt_x hlk hex hR g1 g2 g3
      · cases ev.symm.trans ee2
    · rcases h with ⟨v2, ev2, -⟩ | ⟨e2, ee2, h⟩
      · cases ex.symm.trans ev2
      · cases ex.symm.trans ee2
        cases h
        exact rt_x hlk hex hR g1 g2 g3
  · replace h := rz_f c_6 h
    refine lv_iconst (v := 0) hx hb dM_ways_34 (by decide) ?_
    cases h
    exact rt_i hx hb hlk hrt (Or.inl rfl) rfl hR dM_ways_35
def fM_ways_0 (n d : Nat) (C : Cx) (a0 : Nat) (x1 : Int32) (M : Mem) : Rz := if mK M a0 = 5 then (if (mI M a0 3) = 0 then (fM_ways_24 n d C a0 x1 1 a0 M) else (rzC (C 95 [.int x1] M) fun v_3 M_4 => (rzI v_3 fun x_7 => (if x_7 = 0 then (fM_ways_24 n d C a0 x1 2 a0 M_4) else (fM_ways_24 n d C a0 x1 0 a0 M_4))))) else none
set_option maxRecDepth 100000 in
set_option maxHeartbeats 4000000 in
theorem tM_ways_0 {n : Nat} (F : FX p s m meth c G R M0 d "HeadCountModel" bM_ways 4 (some .int)) (hC : CBs l G d C) : ∀ (a0 : Nat) (x1 : Int32) (M : Mem) (H : Heap) (locs : List Loc) (cells slots : Nat) (ls : Array Slot), fM_ways_0 n d C a0 x1 M = some (r, M') → RL G M0 M H locs cells slots → lv_has ls 4 [(0, .ref a0), (1, .int x1)] → W p l e R s m args below meth c H locs cells slots (CQ G below s M0 r M') (F0 m 0 ls []) := by
  obtain ⟨hx, hb, hml, hown, hrt, hlk, hex, hK, hRm⟩ := id F
  intro a0 x1 M H locs cells slots ls h hR hl
  unfold fM_ways_0 at h
  refine lv_aload_n hx hb dM_ways_0 rfl (lv_at hl 0 rfl) ?_
  refine lv_aload_n hx hb dM_ways_1 rfl (lv_at hl 0 rfl) ?_
  obtain ⟨c_1, h⟩ := rz_chk h
  refine rg_getI hx hb hown hK hR hk_M 3 (by decide) kf_M_194 rfl c_1 dM_ways_2 ?_
  refine lv_if_ne (tgt := 12) hx hb dM_ways_5 (by decide) (fun c_2 => ?_) (fun c_2 => ?_)
  · replace h := rz_f c_2 h
    refine lv_iload_n hx hb dM_ways_12 rfl (lv_at hl 1 rfl) ?_
    obtain ⟨q_6, M_4, h_5, h⟩ := rz_c h
    refine rc_S (rest := [.ref a0]) (As := [.int x1]) hx hb (hl.1.trans hml.symm) hown hK hR hRm mfM_isSize kl_M_238 rfl (by simp [cat_rf, cat_i, cat_a, cat_l, cat_n]) (hC 95 _ _ _ _ h_5) dM_ways_13 (fun v1 H locs cells slots ev hR => ?_) (fun x1 q1 ce1 H locs cells slots ex hR g1 g2 g3 => ?_)
    · rcases h with ⟨v_3, ev2, h⟩ | ⟨e2, ee2, -⟩
      · cases ev.symm.trans ev2
        replace h := rz_i h
        obtain ⟨x_7, rfl, h⟩ := h
        dsimp only [Option.toList, List.cons_append, List.nil_append]
        refine lv_if_ne (tgt := 23) hx hb dM_ways_16 (by decide) (fun c_8 => ?_) (fun c_8 => ?_)
        · replace h := rz_f c_8 h
          refine lv_iconst (v := 0) hx hb dM_ways_23 (by decide) ?_
          exact tM_ways_24 F hC a0 x1 0 a0 _ _ _ _ _ _ h hR (lv_sub hl [0, 1] rfl)
        · replace h := rz_t c_8 h
          refine lv_iconst (v := 2) hx hb dM_ways_19 (by decide) ?_
          refine lv_goto (tgt := 24) hx hb dM_ways_20 (by decide) ?_
          exact tM_ways_24 F hC a0 x1 2 a0 _ _ _ _ _ _ h hR (lv_sub hl [0, 1] rfl)
      · cases ev.symm.trans ee2
    · rcases h with ⟨v2, ev2, -⟩ | ⟨e2, ee2, h⟩
      · cases ex.symm.trans ev2
      · cases ex.symm.trans ee2
        cases h
        exact rt_x hlk hex hR g1 g2 g3
  · replace h := rz_t c_2 h
    refine lv_iconst (v := 1) hx hb dM_ways_8 (by decide) ?_
    refine lv_goto (tgt := 24) hx hb dM_ways_9 (by decide) ?_
    exact tM_ways_24 F hC a0 x1 1 a0 _ _ _ _ _ _ h hR (lv_sub hl [0, 1] rfl)
set_option maxRecDepth 100000 in
set_option maxHeartbeats 4000000 in
theorem sM_ways {l : Launch} {G : Gx} {n d : Nat} {C : Cx} (hC : CBs l G d C) (a0 : Nat) (x1 : Int32) {M M' : Mem} {r : Option Value ⊕ Nat} (h : fM_ways_0 n d C a0 x1 M = some (r, M')) : CB l G (d + 1) yM_ways [.ref a0, .int x1] M r M' := by
  intro p e R s m below meth c hx hn hm hc hlk hK hR hcap hS hU hfr hlo hrc hrs
  obtain ⟨hb, hml, hrt, hex, hown⟩ := fx_of hn hm hc (hK.w mfM_ways.2.2.1 rfl #[])
  have F : FX p s m meth c G R M d "HeadCountModel" bM_ways 4 (some .int) := ⟨hx, hb, hml, hown, hrt, hlk, hex, hK, hfr, hlo, by rw [← hcap]; exact hrc, hrs⟩
  rw [hml]
  have hl := lv_entry ([.ref a0, .int x1]) (n := 4) (by simp [lg_sl, cat_rf, cat_i, cat_a, cat_l, cat_n])
  rw [lg_entry_eq]
  generalize (lg_sl ([.ref a0, .int x1]) ++ List.replicate (4 - (lg_sl ([.ref a0, .int x1])).length) Slot.unset).toArray = ls at hl ⊢
  have hl : lv_has ls 4 [(0, .ref a0), (1, .int x1)] := by simpa [lv_args, cat_rf, cat_i, cat_a, cat_l, cat_n] using hl
  exact tM_ways_0 F hC a0 x1 _ _ _ _ _ _ h (RL.start hR hcap hS hU) (lv_sub hl [0, 1] rfl)
def fM_isLoop_41 (n d : Nat) (C : Cx) (xs0 : Int32) (M : Mem) : Rz := if fits .boolean (.int xs0) = true then (some (.inl (some (.int xs0)), M)) else none
set_option maxRecDepth 100000 in
set_option maxHeartbeats 4000000 in
theorem tM_isLoop_41 {n : Nat} (F : FX p s m meth c G R M0 d "HeadCountModel" bM_isLoop 1 (some .boolean)) (hC : CBs l G d C) : ∀ (xs0 : Int32) (M : Mem) (H : Heap) (locs : List Loc) (cells slots : Nat) (ls : Array Slot), fM_isLoop_41 n d C xs0 M = some (r, M') → RL G M0 M H locs cells slots → lv_has ls 1 [] → W p l e R s m args below meth c H locs cells slots (CQ G below s M0 r M') (F0 m 41 ls [.int xs0]) := by
  obtain ⟨hx, hb, hml, hown, hrt, hlk, hex, hK, hRm⟩ := id F
  intro xs0 M H locs cells slots ls h hR hl
  unfold fM_isLoop_41 at h
  obtain ⟨c_1, h⟩ := rz_chk h
  cases h
  exact rt_i hx hb hlk hrt (Or.inr (Or.inr rfl)) c_1 hR dM_isLoop_41
def fM_isLoop_40 (n d : Nat) (C : Cx) (M : Mem) : Rz := fM_isLoop_41 n d C 0 M
set_option maxRecDepth 100000 in
set_option maxHeartbeats 4000000 in
theorem tM_isLoop_40 {n : Nat} (F : FX p s m meth c G R M0 d "HeadCountModel" bM_isLoop 1 (some .boolean)) (hC : CBs l G d C) : ∀ (M : Mem) (H : Heap) (locs : List Loc) (cells slots : Nat) (ls : Array Slot), fM_isLoop_40 n d C M = some (r, M') → RL G M0 M H locs cells slots → lv_has ls 1 [] → W p l e R s m args below meth c H locs cells slots (CQ G below s M0 r M') (F0 m 40 ls []) := by
  obtain ⟨hx, hb, hml, hown, hrt, hlk, hex, hK, hRm⟩ := id F
  intro M H locs cells slots ls h hR hl
  unfold fM_isLoop_40 at h
  refine lv_iconst (v := 0) hx hb dM_isLoop_40 (by decide) ?_
  exact tM_isLoop_41 F hC 0 _ _ _ _ _ _ h hR (lv_sub hl [] rfl)
def fM_isLoop_0 (n d : Nat) (C : Cx) (a0 : Nat) (M : Mem) : Rz := if mK M a0 = 5 then (if (mI M a0 10) = 0 then (fM_isLoop_40 n d C M) else (rzD (mP M a0 6) fun a_3 => (if mK M a_3 = 21 then (if inA ((mI M a0 4) - 1) (mL M a_3) then (if (mI M a_3 ((mI M a0 4) - 1).toNatClampNeg) = 5 then (rzD (mP M a0 7) fun a_8 => (if mK M a_8 = 21 then (if inA ((mI M a0 4) - 1) (mL M a_8) then (if (mI M a_8 ((mI M a0 4) - 1).toNatClampNeg) = 0 then (fM_isLoop_41 n d C 1 M) else (fM_isLoop_40 n d C M)) else none) else none)) else (fM_isLoop_40 n d C M)) else none) else none))) else none
set_option maxRecDepth 100000 in
set_option maxHeartbeats 4000000 in
theorem tM_isLoop_0 {n : Nat} (F : FX p s m meth c G R M0 d "HeadCountModel" bM_isLoop 1 (some .boolean)) (hC : CBs l G d C) : ∀ (a0 : Nat) (M : Mem) (H : Heap) (locs : List Loc) (cells slots : Nat) (ls : Array Slot), fM_isLoop_0 n d C a0 M = some (r, M') → RL G M0 M H locs cells slots → lv_has ls 1 [(0, .ref a0)] → W p l e R s m args below meth c H locs cells slots (CQ G below s M0 r M') (F0 m 0 ls []) := by
  obtain ⟨hx, hb, hml, hown, hrt, hlk, hex, hK, hRm⟩ := id F
  intro a0 M H locs cells slots ls h hR hl
  unfold fM_isLoop_0 at h
  refine lv_aload_n hx hb dM_isLoop_0 rfl (lv_at hl 0 rfl) ?_
  obtain ⟨c_1, h⟩ := rz_chk h
  refine rg_getI hx hb hown hK hR hk_M 10 (by decide) kf_M_203 rfl c_1 dM_isLoop_1 ?_
  refine lv_if_eq (tgt := 40) hx hb dM_isLoop_4 (by decide) (fun c_2 => ?_) (fun c_2 => ?_)
  · replace h := rz_t c_2 h
    exact tM_isLoop_40 F hC _ _ _ _ _ _ h hR (lv_sub hl [] rfl)
  · replace h := rz_f c_2 h
    refine lv_aload_n hx hb dM_isLoop_7 rfl (lv_at hl 0 rfl) ?_
    refine rg_getP hx hb hown hK hR hk_M 6 (by decide) kf_M_13 rfl c_1 dM_isLoop_8 ?_
    refine lv_aload_n hx hb dM_isLoop_11 rfl (lv_at hl 0 rfl) ?_
    refine rg_getI hx hb hown hK hR hk_M 4 (by decide) kf_M_197 rfl c_1 dM_isLoop_12 ?_
    refine lv_iconst (v := 1) hx hb dM_isLoop_15 (by decide) ?_
    refine lv_isub hx hb dM_isLoop_16 ?_
    obtain ⟨a_3, e_4, h⟩ := rz_d h
    rw [e_4]
    obtain ⟨c_5, h⟩ := rz_chk h
    obtain ⟨c_6, h⟩ := rz_chk h
    refine rg_iald hx hb hK hR c_5 c_6 dM_isLoop_17 ?_
    refine lv_iconst (v := 5) hx hb dM_isLoop_18 (by decide) ?_
    refine lv_icmp_ne (tgt := 40) hx hb dM_isLoop_19 (by decide) (fun c_7 => ?_) (fun c_7 => ?_)
    · replace h := rz_f c_7 h
      exact tM_isLoop_40 F hC _ _ _ _ _ _ h hR (lv_sub hl [] rfl)
    · replace h := rz_t c_7 h
      refine lv_aload_n hx hb dM_isLoop_22 rfl (lv_at hl 0 rfl) ?_
      refine rg_getP hx hb hown hK hR hk_M 7 (by decide) kf_M_17 rfl c_1 dM_isLoop_23 ?_
      refine lv_aload_n hx hb dM_isLoop_26 rfl (lv_at hl 0 rfl) ?_
      refine rg_getI hx hb hown hK hR hk_M 4 (by decide) kf_M_197 rfl c_1 dM_isLoop_27 ?_
      refine lv_iconst (v := 1) hx hb dM_isLoop_30 (by decide) ?_
      refine lv_isub hx hb dM_isLoop_31 ?_
      obtain ⟨a_8, e_9, h⟩ := rz_d h
      rw [e_9]
      obtain ⟨c_10, h⟩ := rz_chk h
      obtain ⟨c_11, h⟩ := rz_chk h
      refine rg_iald hx hb hK hR c_10 c_11 dM_isLoop_32 ?_
      refine lv_if_ne (tgt := 40) hx hb dM_isLoop_33 (by decide) (fun c_12 => ?_) (fun c_12 => ?_)
      · replace h := rz_f c_12 h
        exact tM_isLoop_40 F hC _ _ _ _ _ _ h hR (lv_sub hl [] rfl)
      · replace h := rz_t c_12 h
        refine lv_iconst (v := 1) hx hb dM_isLoop_36 (by decide) ?_
        refine lv_goto (tgt := 41) hx hb dM_isLoop_37 (by decide) ?_
        exact tM_isLoop_41 F hC 1 _ _ _ _ _ _ h hR (lv_sub hl [] rfl)
set_option maxRecDepth 100000 in
set_option maxHeartbeats 4000000 in
theorem sM_isLoop {l : Launch} {G : Gx} {n d : Nat} {C : Cx} (hC : CBs l G d C) (a0 : Nat) {M M' : Mem} {r : Option Value ⊕ Nat} (h : fM_isLoop_0 n d C a0 M = some (r, M')) : CB l G (d + 1) yM_isLoop [.ref a0] M r M' := by
  intro p e R s m below meth c hx hn hm hc hlk hK hR hcap hS hU hfr hlo hrc hrs
  obtain ⟨hb, hml, hrt, hex, hown⟩ := fx_of hn hm hc (hK.w mfM_isLoop.2.2.1 rfl #[])
  have F : FX p s m meth c G R M d "HeadCountModel" bM_isLoop 1 (some .boolean) := ⟨hx, hb, hml, hown, hrt, hlk, hex, hK, hfr, hlo, by rw [← hcap]; exact hrc, hrs⟩
  rw [hml]
  have hl := lv_entry ([.ref a0]) (n := 1) (by simp [lg_sl, cat_rf, cat_i, cat_a, cat_l, cat_n])
  rw [lg_entry_eq]
  generalize (lg_sl ([.ref a0]) ++ List.replicate (1 - (lg_sl ([.ref a0])).length) Slot.unset).toArray = ls at hl ⊢
  have hl : lv_has ls 1 [(0, .ref a0)] := by simpa [lv_args, cat_rf, cat_i, cat_a, cat_l, cat_n] using hl
  exact tM_isLoop_0 F hC a0 _ _ _ _ _ _ h (RL.start hR hcap hS hU) (lv_sub hl [0] rfl)
end
