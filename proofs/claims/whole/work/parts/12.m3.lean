theorem dM_read_0 : decode bM_read 0 = .ok (.aload_n 0, 1) := by decide +kernel
theorem dM_read_1 : decode bM_read 1 = .ok (.invokevirtual 190, 3) := by decide +kernel
theorem dM_read_4 : decode bM_read 4 = .ok (.istore_n 1, 1) := by decide +kernel
theorem dM_read_5 : decode bM_read 5 = .ok (.aload_n 0, 1) := by decide +kernel
theorem dM_read_6 : decode bM_read 6 = .ok (.iload_n 1, 1) := by decide +kernel
theorem dM_read_7 : decode bM_read 7 = .ok (.ifCond .eq 7, 3) := by decide +kernel
theorem dM_read_10 : decode bM_read 10 = .ok (.iconst 0, 1) := by decide +kernel
theorem dM_read_11 : decode bM_read 11 = .ok (.goto 4, 3) := by decide +kernel
theorem dM_read_14 : decode bM_read 14 = .ok (.iconst 1, 1) := by decide +kernel
theorem dM_read_15 : decode bM_read 15 = .ok (.putfield 60, 3) := by decide +kernel
theorem dM_read_18 : decode bM_read 18 = .ok (.iload_n 1, 1) := by decide +kernel
theorem dM_read_19 : decode bM_read 19 = .ok (.ifCond .ne 5, 3) := by decide +kernel
theorem dM_read_22 : decode bM_read 22 = .ok (.iconst 0, 1) := by decide +kernel
theorem dM_read_23 : decode bM_read 23 = .ok (.ireturn, 1) := by decide +kernel
theorem dM_read_24 : decode bM_read 24 = .ok (.aload_n 0, 1) := by decide +kernel
theorem dM_read_25 : decode bM_read 25 = .ok (.iconst 1, 1) := by decide +kernel
theorem dM_read_26 : decode bM_read 26 = .ok (.putfield 194, 3) := by decide +kernel
theorem dM_read_29 : decode bM_read 29 = .ok (.aload_n 0, 1) := by decide +kernel
theorem dM_read_30 : decode bM_read 30 = .ok (.aload_n 0, 1) := by decide +kernel
theorem dM_read_31 : decode bM_read 31 = .ok (.getfield 69, 3) := by decide +kernel
theorem dM_read_34 : decode bM_read 34 = .ok (.putfield 197, 3) := by decide +kernel
theorem dM_read_37 : decode bM_read 37 = .ok (.aload_n 0, 1) := by decide +kernel
theorem dM_read_38 : decode bM_read 38 = .ok (.aload_n 0, 1) := by decide +kernel
theorem dM_read_39 : decode bM_read 39 = .ok (.getfield 98, 3) := by decide +kernel
theorem dM_read_42 : decode bM_read 42 = .ok (.putfield 200, 3) := by decide +kernel
theorem dM_read_45 : decode bM_read 45 = .ok (.aload_n 0, 1) := by decide +kernel
theorem dM_read_46 : decode bM_read 46 = .ok (.aload_n 0, 1) := by decide +kernel
theorem dM_read_47 : decode bM_read 47 = .ok (.getfield 184, 3) := by decide +kernel
theorem dM_read_50 : decode bM_read 50 = .ok (.putfield 203, 3) := by decide +kernel
theorem dM_read_53 : decode bM_read 53 = .ok (.iconst 0, 1) := by decide +kernel
theorem dM_read_54 : decode bM_read 54 = .ok (.istore_n 2, 1) := by decide +kernel
theorem dM_read_55 : decode bM_read 55 = .ok (.iload_n 2, 1) := by decide +kernel
theorem dM_read_56 : decode bM_read 56 = .ok (.aload_n 0, 1) := by decide +kernel
theorem dM_read_57 : decode bM_read 57 = .ok (.getfield 197, 3) := by decide +kernel
theorem dM_read_60 : decode bM_read 60 = .ok (.if_icmp .ge 33, 3) := by decide +kernel
theorem dM_read_63 : decode bM_read 63 = .ok (.aload_n 0, 1) := by decide +kernel
theorem dM_read_64 : decode bM_read 64 = .ok (.getfield 13, 3) := by decide +kernel
theorem dM_read_67 : decode bM_read 67 = .ok (.iload_n 2, 1) := by decide +kernel
theorem dM_read_68 : decode bM_read 68 = .ok (.aload_n 0, 1) := by decide +kernel
theorem dM_read_69 : decode bM_read 69 = .ok (.getfield 27, 3) := by decide +kernel
theorem dM_read_72 : decode bM_read 72 = .ok (.iload_n 2, 1) := by decide +kernel
theorem dM_read_73 : decode bM_read 73 = .ok (.iaload, 1) := by decide +kernel
theorem dM_read_74 : decode bM_read 74 = .ok (.iastore, 1) := by decide +kernel
theorem dM_read_75 : decode bM_read 75 = .ok (.aload_n 0, 1) := by decide +kernel
theorem dM_read_76 : decode bM_read 76 = .ok (.getfield 17, 3) := by decide +kernel
theorem dM_read_79 : decode bM_read 79 = .ok (.iload_n 2, 1) := by decide +kernel
theorem dM_read_80 : decode bM_read 80 = .ok (.aload_n 0, 1) := by decide +kernel
theorem dM_read_81 : decode bM_read 81 = .ok (.getfield 30, 3) := by decide +kernel
theorem dM_read_84 : decode bM_read 84 = .ok (.iload_n 2, 1) := by decide +kernel
theorem dM_read_85 : decode bM_read 85 = .ok (.iaload, 1) := by decide +kernel
theorem dM_read_86 : decode bM_read 86 = .ok (.iastore, 1) := by decide +kernel
theorem dM_read_87 : decode bM_read 87 = .ok (.iinc 2 1, 3) := by decide +kernel
theorem dM_read_90 : decode bM_read 90 = .ok (.goto (-35), 3) := by decide +kernel
theorem dM_read_93 : decode bM_read 93 = .ok (.iconst 0, 1) := by decide +kernel
theorem dM_read_94 : decode bM_read 94 = .ok (.istore_n 2, 1) := by decide +kernel
theorem dM_read_95 : decode bM_read 95 = .ok (.iload_n 2, 1) := by decide +kernel
theorem dM_read_96 : decode bM_read 96 = .ok (.aload_n 0, 1) := by decide +kernel
theorem dM_read_97 : decode bM_read 97 = .ok (.getfield 200, 3) := by decide +kernel
theorem dM_read_100 : decode bM_read 100 = .ok (.if_icmp .ge 33, 3) := by decide +kernel
theorem dM_read_103 : decode bM_read 103 = .ok (.aload_n 0, 1) := by decide +kernel
theorem dM_read_104 : decode bM_read 104 = .ok (.getfield 20, 3) := by decide +kernel
theorem dM_read_107 : decode bM_read 107 = .ok (.iload_n 2, 1) := by decide +kernel
theorem dM_read_108 : decode bM_read 108 = .ok (.aload_n 0, 1) := by decide +kernel
theorem dM_read_109 : decode bM_read 109 = .ok (.getfield 33, 3) := by decide +kernel
theorem dM_read_112 : decode bM_read 112 = .ok (.iload_n 2, 1) := by decide +kernel
theorem dM_read_113 : decode bM_read 113 = .ok (.baload, 1) := by decide +kernel
theorem dM_read_114 : decode bM_read 114 = .ok (.bastore, 1) := by decide +kernel
theorem dM_read_115 : decode bM_read 115 = .ok (.aload_n 0, 1) := by decide +kernel
theorem dM_read_116 : decode bM_read 116 = .ok (.getfield 24, 3) := by decide +kernel
theorem dM_read_119 : decode bM_read 119 = .ok (.iload_n 2, 1) := by decide +kernel
theorem dM_read_120 : decode bM_read 120 = .ok (.aload_n 0, 1) := by decide +kernel
theorem dM_read_121 : decode bM_read 121 = .ok (.getfield 36, 3) := by decide +kernel
theorem dM_read_124 : decode bM_read 124 = .ok (.iload_n 2, 1) := by decide +kernel
theorem dM_read_125 : decode bM_read 125 = .ok (.baload, 1) := by decide +kernel
theorem dM_read_126 : decode bM_read 126 = .ok (.bastore, 1) := by decide +kernel
theorem dM_read_127 : decode bM_read 127 = .ok (.iinc 2 1, 3) := by decide +kernel
theorem dM_read_130 : decode bM_read 130 = .ok (.goto (-35), 3) := by decide +kernel
theorem dM_read_133 : decode bM_read 133 = .ok (.aload_n 0, 1) := by decide +kernel
theorem dM_read_134 : decode bM_read 134 = .ok (.iconst 0, 1) := by decide +kernel
theorem dM_read_135 : decode bM_read 135 = .ok (.putfield 66, 3) := by decide +kernel
theorem dM_read_138 : decode bM_read 138 = .ok (.aload_n 0, 1) := by decide +kernel
theorem dM_read_139 : decode bM_read 139 = .ok (.getfield 200, 3) := by decide +kernel
theorem dM_read_142 : decode bM_read 142 = .ok (.ireturn, 1) := by decide +kernel
theorem dM_isSentence_0 : decode bM_isSentence 0 = .ok (.aload_n 0, 1) := by decide +kernel
theorem dM_isSentence_1 : decode bM_isSentence 1 = .ok (.iconst 0, 1) := by decide +kernel
theorem dM_isSentence_2 : decode bM_isSentence 2 = .ok (.putfield 166, 3) := by decide +kernel
theorem dM_isSentence_5 : decode bM_isSentence 5 = .ok (.aload_n 0, 1) := by decide +kernel
theorem dM_isSentence_6 : decode bM_isSentence 6 = .ok (.iconst 0, 1) := by decide +kernel
theorem dM_isSentence_7 : decode bM_isSentence 7 = .ok (.putfield 72, 3) := by decide +kernel
theorem dM_isSentence_10 : decode bM_isSentence 10 = .ok (.aload_n 0, 1) := by decide +kernel
theorem dM_isSentence_11 : decode bM_isSentence 11 = .ok (.iconst 0, 1) := by decide +kernel
theorem dM_isSentence_12 : decode bM_isSentence 12 = .ok (.putfield 75, 3) := by decide +kernel
theorem dM_isSentence_15 : decode bM_isSentence 15 = .ok (.aload_n 0, 1) := by decide +kernel
theorem dM_isSentence_16 : decode bM_isSentence 16 = .ok (.iconst 0, 1) := by decide +kernel
theorem dM_isSentence_17 : decode bM_isSentence 17 = .ok (.putfield 69, 3) := by decide +kernel
theorem dM_isSentence_20 : decode bM_isSentence 20 = .ok (.aload_n 0, 1) := by decide +kernel
theorem dM_isSentence_21 : decode bM_isSentence 21 = .ok (.iconst 0, 1) := by decide +kernel
theorem dM_isSentence_22 : decode bM_isSentence 22 = .ok (.putfield 98, 3) := by decide +kernel
theorem dM_isSentence_25 : decode bM_isSentence 25 = .ok (.iconst 0, 1) := by decide +kernel
theorem dM_isSentence_26 : decode bM_isSentence 26 = .ok (.istore_n 1, 1) := by decide +kernel
theorem dM_isSentence_27 : decode bM_isSentence 27 = .ok (.iload_n 1, 1) := by decide +kernel
theorem dM_isSentence_28 : decode bM_isSentence 28 = .ok (.bipush 6, 2) := by decide +kernel
theorem dM_isSentence_30 : decode bM_isSentence 30 = .ok (.if_icmp .ge 16, 3) := by decide +kernel
theorem dM_isSentence_33 : decode bM_isSentence 33 = .ok (.aload_n 0, 1) := by decide +kernel
theorem dM_isSentence_34 : decode bM_isSentence 34 = .ok (.getfield 48, 3) := by decide +kernel
theorem dM_isSentence_37 : decode bM_isSentence 37 = .ok (.iload_n 1, 1) := by decide +kernel
theorem dM_isSentence_38 : decode bM_isSentence 38 = .ok (.iconst (-1), 1) := by decide +kernel
theorem dM_isSentence_39 : decode bM_isSentence 39 = .ok (.iastore, 1) := by decide +kernel
theorem dM_isSentence_40 : decode bM_isSentence 40 = .ok (.iinc 1 1, 3) := by decide +kernel
theorem dM_isSentence_43 : decode bM_isSentence 43 = .ok (.goto (-16), 3) := by decide +kernel
theorem dM_isSentence_46 : decode bM_isSentence 46 = .ok (.aload_n 0, 1) := by decide +kernel
theorem dM_isSentence_47 : decode bM_isSentence 47 = .ok (.iconst 0, 1) := by decide +kernel
theorem dM_isSentence_48 : decode bM_isSentence 48 = .ok (.putfield 184, 3) := by decide +kernel
theorem dM_isSentence_51 : decode bM_isSentence 51 = .ok (.iconst 1, 1) := by decide +kernel
theorem dM_isSentence_52 : decode bM_isSentence 52 = .ok (.istore_n 1, 1) := by decide +kernel
theorem dM_isSentence_53 : decode bM_isSentence 53 = .ok (.iconst 0, 1) := by decide +kernel
theorem dM_isSentence_54 : decode bM_isSentence 54 = .ok (.istore_n 2, 1) := by decide +kernel
theorem dM_isSentence_55 : decode bM_isSentence 55 = .ok (.iload_n 2, 1) := by decide +kernel
theorem dM_isSentence_56 : decode bM_isSentence 56 = .ok (.aload_n 0, 1) := by decide +kernel
theorem dM_isSentence_57 : decode bM_isSentence 57 = .ok (.getfield 66, 3) := by decide +kernel
theorem dM_isSentence_60 : decode bM_isSentence 60 = .ok (.if_icmp .ge 74, 3) := by decide +kernel
theorem dM_isSentence_63 : decode bM_isSentence 63 = .ok (.aload_n 0, 1) := by decide +kernel
theorem dM_isSentence_64 : decode bM_isSentence 64 = .ok (.getfield 166, 3) := by decide +kernel
theorem dM_isSentence_67 : decode bM_isSentence 67 = .ok (.bipush 10, 2) := by decide +kernel
theorem dM_isSentence_69 : decode bM_isSentence 69 = .ok (.if_icmp .eq 65, 3) := by decide +kernel
theorem dM_isSentence_72 : decode bM_isSentence 72 = .ok (.aload_n 0, 1) := by decide +kernel
theorem dM_isSentence_73 : decode bM_isSentence 73 = .ok (.getfield 7, 3) := by decide +kernel
theorem dM_isSentence_76 : decode bM_isSentence 76 = .ok (.iload_n 2, 1) := by decide +kernel
theorem dM_isSentence_77 : decode bM_isSentence 77 = .ok (.caload, 1) := by decide +kernel
theorem dM_isSentence_78 : decode bM_isSentence 78 = .ok (.istore_n 3, 1) := by decide +kernel
theorem dM_isSentence_79 : decode bM_isSentence 79 = .ok (.iload_n 3, 1) := by decide +kernel
theorem dM_isSentence_80 : decode bM_isSentence 80 = .ok (.bipush 32, 2) := by decide +kernel
theorem dM_isSentence_82 : decode bM_isSentence 82 = .ok (.if_icmp .eq 46, 3) := by decide +kernel
theorem dM_isSentence_85 : decode bM_isSentence 85 = .ok (.aload_n 0, 1) := by decide +kernel
theorem dM_isSentence_86 : decode bM_isSentence 86 = .ok (.iload_n 1, 1) := by decide +kernel
theorem dM_isSentence_87 : decode bM_isSentence 87 = .ok (.ifCond .eq 23, 3) := by decide +kernel
theorem dM_isSentence_90 : decode bM_isSentence 90 = .ok (.iload_n 3, 1) := by decide +kernel
theorem dM_isSentence_91 : decode bM_isSentence 91 = .ok (.bipush 65, 2) := by decide +kernel
theorem dM_isSentence_93 : decode bM_isSentence 93 = .ok (.if_icmp .eq 9, 3) := by decide +kernel
theorem dM_isSentence_96 : decode bM_isSentence 96 = .ok (.iload_n 3, 1) := by decide +kernel
theorem dM_isSentence_97 : decode bM_isSentence 97 = .ok (.bipush 69, 2) := by decide +kernel
theorem dM_isSentence_99 : decode bM_isSentence 99 = .ok (.if_icmp .ne 7, 3) := by decide +kernel
theorem dM_isSentence_102 : decode bM_isSentence 102 = .ok (.iconst 1, 1) := by decide +kernel
theorem dM_isSentence_103 : decode bM_isSentence 103 = .ok (.goto 11, 3) := by decide +kernel
theorem dM_isSentence_106 : decode bM_isSentence 106 = .ok (.iconst 0, 1) := by decide +kernel
theorem dM_isSentence_107 : decode bM_isSentence 107 = .ok (.goto 7, 3) := by decide +kernel
theorem dM_isSentence_110 : decode bM_isSentence 110 = .ok (.aload_n 0, 1) := by decide +kernel
theorem dM_isSentence_111 : decode bM_isSentence 111 = .ok (.getfield 184, 3) := by decide +kernel
theorem dM_isSentence_114 : decode bM_isSentence 114 = .ok (.putfield 184, 3) := by decide +kernel
theorem dM_isSentence_117 : decode bM_isSentence 117 = .ok (.iconst 0, 1) := by decide +kernel
theorem dM_isSentence_118 : decode bM_isSentence 118 = .ok (.istore_n 1, 1) := by decide +kernel
theorem dM_isSentence_119 : decode bM_isSentence 119 = .ok (.aload_n 0, 1) := by decide +kernel
theorem dM_isSentence_120 : decode bM_isSentence 120 = .ok (.aload_n 0, 1) := by decide +kernel
theorem dM_isSentence_121 : decode bM_isSentence 121 = .ok (.iload_n 3, 1) := by decide +kernel
theorem dM_isSentence_122 : decode bM_isSentence 122 = .ok (.invokevirtual 187, 3) := by decide +kernel
theorem dM_isSentence_125 : decode bM_isSentence 125 = .ok (.putfield 166, 3) := by decide +kernel
theorem dM_isSentence_128 : decode bM_isSentence 128 = .ok (.iinc 2 1, 3) := by decide +kernel
theorem dM_isSentence_131 : decode bM_isSentence 131 = .ok (.goto (-76), 3) := by decide +kernel
theorem dM_isSentence_134 : decode bM_isSentence 134 = .ok (.aload_n 0, 1) := by decide +kernel
theorem dM_isSentence_135 : decode bM_isSentence 135 = .ok (.getfield 166, 3) := by decide +kernel
theorem dM_isSentence_138 : decode bM_isSentence 138 = .ok (.iconst 5, 1) := by decide +kernel
theorem dM_isSentence_139 : decode bM_isSentence 139 = .ok (.if_icmp .eq 12, 3) := by decide +kernel
theorem dM_isSentence_142 : decode bM_isSentence 142 = .ok (.aload_n 0, 1) := by decide +kernel
theorem dM_isSentence_143 : decode bM_isSentence 143 = .ok (.getfield 166, 3) := by decide +kernel
theorem dM_isSentence_146 : decode bM_isSentence 146 = .ok (.bipush 7, 2) := by decide +kernel
theorem dM_isSentence_148 : decode bM_isSentence 148 = .ok (.if_icmp .ne 37, 3) := by decide +kernel
theorem dM_isSentence_151 : decode bM_isSentence 151 = .ok (.aload_n 0, 1) := by decide +kernel
theorem dM_isSentence_152 : decode bM_isSentence 152 = .ok (.getfield 101, 3) := by decide +kernel
theorem dM_isSentence_155 : decode bM_isSentence 155 = .ok (.ifCond .le 7, 3) := by decide +kernel
theorem dM_isSentence_158 : decode bM_isSentence 158 = .ok (.iconst 1, 1) := by decide +kernel
theorem dM_isSentence_159 : decode bM_isSentence 159 = .ok (.goto 4, 3) := by decide +kernel
theorem dM_isSentence_162 : decode bM_isSentence 162 = .ok (.iconst 0, 1) := by decide +kernel
theorem dM_isSentence_163 : decode bM_isSentence 163 = .ok (.istore_n 2, 1) := by decide +kernel
theorem dM_isSentence_164 : decode bM_isSentence 164 = .ok (.aload_n 0, 1) := by decide +kernel
theorem dM_isSentence_165 : decode bM_isSentence 165 = .ok (.bipush 32, 2) := by decide +kernel
theorem dM_isSentence_167 : decode bM_isSentence 167 = .ok (.invokevirtual 187, 3) := by decide +kernel
theorem dM_isSentence_170 : decode bM_isSentence 170 = .ok (.pop, 1) := by decide +kernel
theorem dM_isSentence_171 : decode bM_isSentence 171 = .ok (.aload_n 0, 1) := by decide +kernel
theorem dM_isSentence_172 : decode bM_isSentence 172 = .ok (.iload_n 2, 1) := by decide +kernel
theorem dM_isSentence_173 : decode bM_isSentence 173 = .ok (.ifCond .eq 7, 3) := by decide +kernel
theorem dM_isSentence_176 : decode bM_isSentence 176 = .ok (.iconst 1, 1) := by decide +kernel
theorem dM_isSentence_177 : decode bM_isSentence 177 = .ok (.goto 5, 3) := by decide +kernel
theorem dM_isSentence_180 : decode bM_isSentence 180 = .ok (.bipush 10, 2) := by decide +kernel
theorem dM_isSentence_182 : decode bM_isSentence 182 = .ok (.putfield 166, 3) := by decide +kernel
theorem dM_isSentence_185 : decode bM_isSentence 185 = .ok (.aload_n 0, 1) := by decide +kernel
theorem dM_isSentence_186 : decode bM_isSentence 186 = .ok (.getfield 166, 3) := by decide +kernel
theorem dM_isSentence_189 : decode bM_isSentence 189 = .ok (.iconst 1, 1) := by decide +kernel
theorem dM_isSentence_190 : decode bM_isSentence 190 = .ok (.if_icmp .eq 5, 3) := by decide +kernel
theorem dM_isSentence_193 : decode bM_isSentence 193 = .ok (.iconst 0, 1) := by decide +kernel
theorem dM_isSentence_194 : decode bM_isSentence 194 = .ok (.ireturn, 1) := by decide +kernel
theorem dM_isSentence_195 : decode bM_isSentence 195 = .ok (.aload_n 0, 1) := by decide +kernel
theorem dM_isSentence_196 : decode bM_isSentence 196 = .ok (.iconst 2, 1) := by decide +kernel
theorem dM_isSentence_197 : decode bM_isSentence 197 = .ok (.iconst 1, 1) := by decide +kernel
theorem dM_isSentence_198 : decode bM_isSentence 198 = .ok (.invokevirtual 114, 3) := by decide +kernel
theorem dM_isSentence_201 : decode bM_isSentence 201 = .ok (.aload_n 0, 1) := by decide +kernel
theorem dM_isSentence_202 : decode bM_isSentence 202 = .ok (.getfield 72, 3) := by decide +kernel
theorem dM_isSentence_205 : decode bM_isSentence 205 = .ok (.ifCond .ne 7, 3) := by decide +kernel
theorem dM_isSentence_208 : decode bM_isSentence 208 = .ok (.iconst 1, 1) := by decide +kernel
theorem dM_isSentence_209 : decode bM_isSentence 209 = .ok (.goto 4, 3) := by decide +kernel
theorem dM_isSentence_212 : decode bM_isSentence 212 = .ok (.iconst 0, 1) := by decide +kernel
theorem dM_isSentence_213 : decode bM_isSentence 213 = .ok (.ireturn, 1) := by decide +kernel
theorem dM_next_0 : decode bM_next 0 = .ok (.aload_n 0, 1) := by decide +kernel
theorem dM_next_1 : decode bM_next 1 = .ok (.getfield 166, 3) := by decide +kernel
theorem dM_next_4 : decode bM_next 4 = .ok (.tableswitch 116 0 9 #[56, 62, 68, 74, 80, 86, 92, 98, 104, 110], 56) := by decide +kernel
theorem dM_next_60 : decode bM_next 60 = .ok (.aload_n 0, 1) := by decide +kernel
theorem dM_next_61 : decode bM_next 61 = .ok (.iload_n 1, 1) := by decide +kernel
theorem dM_next_62 : decode bM_next 62 = .ok (.invokevirtual 169, 3) := by decide +kernel
theorem dM_next_65 : decode bM_next 65 = .ok (.ireturn, 1) := by decide +kernel
theorem dM_next_66 : decode bM_next 66 = .ok (.aload_n 0, 1) := by decide +kernel
theorem dM_next_67 : decode bM_next 67 = .ok (.iload_n 1, 1) := by decide +kernel
theorem dM_next_68 : decode bM_next 68 = .ok (.invokevirtual 160, 3) := by decide +kernel
theorem dM_next_71 : decode bM_next 71 = .ok (.ireturn, 1) := by decide +kernel
theorem dM_next_72 : decode bM_next 72 = .ok (.aload_n 0, 1) := by decide +kernel
theorem dM_next_73 : decode bM_next 73 = .ok (.iload_n 1, 1) := by decide +kernel
theorem dM_next_74 : decode bM_next 74 = .ok (.invokevirtual 172, 3) := by decide +kernel
theorem dM_next_77 : decode bM_next 77 = .ok (.ireturn, 1) := by decide +kernel
theorem dM_next_78 : decode bM_next 78 = .ok (.aload_n 0, 1) := by decide +kernel
theorem dM_next_79 : decode bM_next 79 = .ok (.iload_n 1, 1) := by decide +kernel
theorem dM_next_80 : decode bM_next 80 = .ok (.invokevirtual 104, 3) := by decide +kernel
theorem dM_next_83 : decode bM_next 83 = .ok (.ireturn, 1) := by decide +kernel
theorem dM_next_84 : decode bM_next 84 = .ok (.aload_n 0, 1) := by decide +kernel
theorem dM_next_85 : decode bM_next 85 = .ok (.iload_n 1, 1) := by decide +kernel
theorem dM_next_86 : decode bM_next 86 = .ok (.invokevirtual 129, 3) := by decide +kernel
theorem dM_next_89 : decode bM_next 89 = .ok (.ireturn, 1) := by decide +kernel
theorem dM_next_90 : decode bM_next 90 = .ok (.aload_n 0, 1) := by decide +kernel
theorem dM_next_91 : decode bM_next 91 = .ok (.iload_n 1, 1) := by decide +kernel
theorem dM_next_92 : decode bM_next 92 = .ok (.invokevirtual 175, 3) := by decide +kernel
theorem dM_next_95 : decode bM_next 95 = .ok (.ireturn, 1) := by decide +kernel
theorem dM_next_96 : decode bM_next 96 = .ok (.aload_n 0, 1) := by decide +kernel
theorem dM_next_97 : decode bM_next 97 = .ok (.iload_n 1, 1) := by decide +kernel
theorem dM_next_98 : decode bM_next 98 = .ok (.invokevirtual 145, 3) := by decide +kernel
theorem dM_next_101 : decode bM_next 101 = .ok (.ireturn, 1) := by decide +kernel
theorem dM_next_102 : decode bM_next 102 = .ok (.aload_n 0, 1) := by decide +kernel
theorem dM_next_103 : decode bM_next 103 = .ok (.iload_n 1, 1) := by decide +kernel
theorem dM_next_104 : decode bM_next 104 = .ok (.invokevirtual 157, 3) := by decide +kernel
theorem dM_next_107 : decode bM_next 107 = .ok (.ireturn, 1) := by decide +kernel
theorem dM_next_108 : decode bM_next 108 = .ok (.aload_n 0, 1) := by decide +kernel
theorem dM_next_109 : decode bM_next 109 = .ok (.iload_n 1, 1) := by decide +kernel
theorem dM_next_110 : decode bM_next 110 = .ok (.invokevirtual 178, 3) := by decide +kernel
theorem dM_next_113 : decode bM_next 113 = .ok (.ireturn, 1) := by decide +kernel
theorem dM_next_114 : decode bM_next 114 = .ok (.aload_n 0, 1) := by decide +kernel
theorem dM_next_115 : decode bM_next 115 = .ok (.iload_n 1, 1) := by decide +kernel
theorem dM_next_116 : decode bM_next 116 = .ok (.invokevirtual 181, 3) := by decide +kernel
theorem dM_next_119 : decode bM_next 119 = .ok (.ireturn, 1) := by decide +kernel
theorem dM_next_120 : decode bM_next 120 = .ok (.bipush 10, 2) := by decide +kernel
theorem dM_next_122 : decode bM_next 122 = .ok (.ireturn, 1) := by decide +kernel
theorem dM_single_0 : decode bM_single 0 = .ok (.iload_n 1, 1) := by decide +kernel
theorem dM_single_1 : decode bM_single 1 = .ok (.invokestatic 108, 3) := by decide +kernel
theorem dM_single_4 : decode bM_single 4 = .ok (.istore_n 2, 1) := by decide +kernel
theorem dM_single_5 : decode bM_single 5 = .ok (.iload_n 1, 1) := by decide +kernel
theorem dM_single_6 : decode bM_single 6 = .ok (.bipush 45, 2) := by decide +kernel
theorem dM_single_8 : decode bM_single 8 = .ok (.if_icmp .ne 20, 3) := by decide +kernel
theorem dM_single_11 : decode bM_single 11 = .ok (.aload_n 0, 1) := by decide +kernel
theorem dM_single_12 : decode bM_single 12 = .ok (.bipush 9, 2) := by decide +kernel
theorem dM_single_14 : decode bM_single 14 = .ok (.invokevirtual 90, 3) := by decide +kernel
theorem dM_single_17 : decode bM_single 17 = .ok (.ifCond .eq 8, 3) := by decide +kernel
theorem dM_single_20 : decode bM_single 20 = .ok (.bipush 8, 2) := by decide +kernel
theorem dM_single_22 : decode bM_single 22 = .ok (.goto 5, 3) := by decide +kernel
theorem dM_single_25 : decode bM_single 25 = .ok (.bipush 10, 2) := by decide +kernel
theorem dM_single_27 : decode bM_single 27 = .ok (.ireturn, 1) := by decide +kernel
theorem dM_single_28 : decode bM_single 28 = .ok (.iload_n 1, 1) := by decide +kernel
theorem dM_single_29 : decode bM_single 29 = .ok (.bipush 40, 2) := by decide +kernel
theorem dM_single_31 : decode bM_single 31 = .ok (.if_icmp .ne 20, 3) := by decide +kernel
theorem dM_single_34 : decode bM_single 34 = .ok (.aload_n 0, 1) := by decide +kernel
theorem dM_single_35 : decode bM_single 35 = .ok (.bipush 10, 2) := by decide +kernel
theorem dM_single_37 : decode bM_single 37 = .ok (.invokevirtual 90, 3) := by decide +kernel
theorem dM_single_40 : decode bM_single 40 = .ok (.ifCond .eq 8, 3) := by decide +kernel
theorem dM_single_43 : decode bM_single 43 = .ok (.bipush 8, 2) := by decide +kernel
theorem dM_single_45 : decode bM_single 45 = .ok (.goto 5, 3) := by decide +kernel
theorem dM_single_48 : decode bM_single 48 = .ok (.bipush 10, 2) := by decide +kernel
theorem dM_single_50 : decode bM_single 50 = .ok (.ireturn, 1) := by decide +kernel
theorem dM_single_51 : decode bM_single 51 = .ok (.iload_n 1, 1) := by decide +kernel
theorem dM_single_52 : decode bM_single 52 = .ok (.bipush 48, 2) := by decide +kernel
theorem dM_single_54 : decode bM_single 54 = .ok (.if_icmp .eq 9, 3) := by decide +kernel
theorem dM_single_57 : decode bM_single 57 = .ok (.iload_n 1, 1) := by decide +kernel
theorem dM_single_58 : decode bM_single 58 = .ok (.bipush 49, 2) := by decide +kernel
theorem dM_single_60 : decode bM_single 60 = .ok (.if_icmp .ne 24, 3) := by decide +kernel
theorem dM_single_63 : decode bM_single 63 = .ok (.aload_n 0, 1) := by decide +kernel
theorem dM_single_64 : decode bM_single 64 = .ok (.iload_n 1, 1) := by decide +kernel
theorem dM_single_65 : decode bM_single 65 = .ok (.bipush 48, 2) := by decide +kernel
theorem dM_single_67 : decode bM_single 67 = .ok (.if_icmp .ne 8, 3) := by decide +kernel
theorem dM_single_70 : decode bM_single 70 = .ok (.bipush 23, 2) := by decide +kernel
theorem dM_single_72 : decode bM_single 72 = .ok (.goto 5, 3) := by decide +kernel
theorem dM_single_75 : decode bM_single 75 = .ok (.bipush 24, 2) := by decide +kernel
theorem dM_single_77 : decode bM_single 77 = .ok (.iconst 0, 1) := by decide +kernel
theorem dM_single_78 : decode bM_single 78 = .ok (.invokevirtual 86, 3) := by decide +kernel
theorem dM_single_81 : decode bM_single 81 = .ok (.goto 35, 3) := by decide +kernel
theorem dM_single_84 : decode bM_single 84 = .ok (.iload_n 2, 1) := by decide +kernel
theorem dM_single_85 : decode bM_single 85 = .ok (.iconst 2, 1) := by decide +kernel
theorem dM_single_86 : decode bM_single 86 = .ok (.if_icmp .le 27, 3) := by decide +kernel
theorem dM_single_89 : decode bM_single 89 = .ok (.aload_n 0, 1) := by decide +kernel
theorem dM_single_90 : decode bM_single 90 = .ok (.getfield 48, 3) := by decide +kernel
theorem dM_single_93 : decode bM_single 93 = .ok (.iload_n 2, 1) := by decide +kernel
theorem dM_single_94 : decode bM_single 94 = .ok (.iaload, 1) := by decide +kernel
theorem dM_single_95 : decode bM_single 95 = .ok (.ifCond .lt 18, 3) := by decide +kernel
theorem dM_single_98 : decode bM_single 98 = .ok (.aload_n 0, 1) := by decide +kernel
theorem dM_single_99 : decode bM_single 99 = .ok (.bipush 14, 2) := by decide +kernel
theorem dM_single_101 : decode bM_single 101 = .ok (.aload_n 0, 1) := by decide +kernel
theorem dM_single_102 : decode bM_single 102 = .ok (.getfield 48, 3) := by decide +kernel
theorem dM_single_105 : decode bM_single 105 = .ok (.iload_n 2, 1) := by decide +kernel
theorem dM_single_106 : decode bM_single 106 = .ok (.iaload, 1) := by decide +kernel
theorem dM_single_107 : decode bM_single 107 = .ok (.invokevirtual 86, 3) := by decide +kernel
theorem dM_single_110 : decode bM_single 110 = .ok (.goto 6, 3) := by decide +kernel
theorem dM_single_113 : decode bM_single 113 = .ok (.bipush 10, 2) := by decide +kernel
theorem dM_single_115 : decode bM_single 115 = .ok (.ireturn, 1) := by decide +kernel
theorem dM_single_116 : decode bM_single 116 = .ok (.aload_n 0, 1) := by decide +kernel
theorem dM_single_117 : decode bM_single 117 = .ok (.invokevirtual 163, 3) := by decide +kernel
theorem dM_single_120 : decode bM_single 120 = .ok (.ireturn, 1) := by decide +kernel
theorem dM_wholeSingle_0 : decode bM_wholeSingle 0 = .ok (.aload_n 0, 1) := by decide +kernel
theorem dM_wholeSingle_1 : decode bM_wholeSingle 1 = .ok (.invokevirtual 82, 3) := by decide +kernel
theorem dM_wholeSingle_4 : decode bM_wholeSingle 4 = .ok (.bipush 9, 2) := by decide +kernel
theorem dM_wholeSingle_6 : decode bM_wholeSingle 6 = .ok (.if_icmp .ne 17, 3) := by decide +kernel
theorem dM_wholeSingle_9 : decode bM_wholeSingle 9 = .ok (.aload_n 0, 1) := by decide +kernel
theorem dM_wholeSingle_10 : decode bM_wholeSingle 10 = .ok (.bipush 9, 2) := by decide +kernel
theorem dM_wholeSingle_12 : decode bM_wholeSingle 12 = .ok (.iconst 0, 1) := by decide +kernel
theorem dM_wholeSingle_13 : decode bM_wholeSingle 13 = .ok (.invokevirtual 86, 3) := by decide +kernel
theorem dM_wholeSingle_16 : decode bM_wholeSingle 16 = .ok (.aload_n 0, 1) := by decide +kernel
theorem dM_wholeSingle_17 : decode bM_wholeSingle 17 = .ok (.invokevirtual 111, 3) := by decide +kernel
theorem dM_wholeSingle_20 : decode bM_wholeSingle 20 = .ok (.goto (-20), 3) := by decide +kernel
theorem dM_wholeSingle_23 : decode bM_wholeSingle 23 = .ok (.aload_n 0, 1) := by decide +kernel
theorem dM_wholeSingle_24 : decode bM_wholeSingle 24 = .ok (.invokevirtual 82, 3) := by decide +kernel
theorem dM_wholeSingle_27 : decode bM_wholeSingle 27 = .ok (.bipush 11, 2) := by decide +kernel
theorem dM_wholeSingle_29 : decode bM_wholeSingle 29 = .ok (.if_icmp .eq 6, 3) := by decide +kernel
theorem dM_wholeSingle_32 : decode bM_wholeSingle 32 = .ok (.bipush 9, 2) := by decide +kernel
theorem dM_wholeSingle_34 : decode bM_wholeSingle 34 = .ok (.ireturn, 1) := by decide +kernel
theorem dM_wholeSingle_35 : decode bM_wholeSingle 35 = .ok (.aload_n 0, 1) := by decide +kernel
theorem dM_wholeSingle_36 : decode bM_wholeSingle 36 = .ok (.bipush 11, 2) := by decide +kernel
theorem dM_wholeSingle_38 : decode bM_wholeSingle 38 = .ok (.iconst 0, 1) := by decide +kernel
theorem dM_wholeSingle_39 : decode bM_wholeSingle 39 = .ok (.invokevirtual 86, 3) := by decide +kernel
theorem dM_wholeSingle_42 : decode bM_wholeSingle 42 = .ok (.aload_n 0, 1) := by decide +kernel
theorem dM_wholeSingle_43 : decode bM_wholeSingle 43 = .ok (.invokevirtual 111, 3) := by decide +kernel
theorem dM_wholeSingle_46 : decode bM_wholeSingle 46 = .ok (.aload_n 0, 1) := by decide +kernel
theorem dM_wholeSingle_47 : decode bM_wholeSingle 47 = .ok (.invokevirtual 154, 3) := by decide +kernel
theorem dM_wholeSingle_50 : decode bM_wholeSingle 50 = .ok (.bipush 7, 2) := by decide +kernel
theorem dM_wholeSingle_52 : decode bM_wholeSingle 52 = .ok (.ireturn, 1) := by decide +kernel
theorem dM_afterSingle_0 : decode bM_afterSingle 0 = .ok (.iload_n 1, 1) := by decide +kernel
theorem dM_afterSingle_1 : decode bM_afterSingle 1 = .ok (.bipush 42, 2) := by decide +kernel
theorem dM_afterSingle_3 : decode bM_afterSingle 3 = .ok (.if_icmp .ne 20, 3) := by decide +kernel
theorem dM_afterSingle_6 : decode bM_afterSingle 6 = .ok (.aload_n 0, 1) := by decide +kernel
theorem dM_afterSingle_7 : decode bM_afterSingle 7 = .ok (.bipush 8, 2) := by decide +kernel
theorem dM_afterSingle_9 : decode bM_afterSingle 9 = .ok (.bipush 8, 2) := by decide +kernel
theorem dM_afterSingle_11 : decode bM_afterSingle 11 = .ok (.invokevirtual 114, 3) := by decide +kernel
theorem dM_afterSingle_14 : decode bM_afterSingle 14 = .ok (.aload_n 0, 1) := by decide +kernel
theorem dM_afterSingle_15 : decode bM_afterSingle 15 = .ok (.bipush 8, 2) := by decide +kernel
theorem dM_afterSingle_17 : decode bM_afterSingle 17 = .ok (.invokevirtual 78, 3) := by decide +kernel
theorem dM_afterSingle_20 : decode bM_afterSingle 20 = .ok (.bipush 8, 2) := by decide +kernel
theorem dM_afterSingle_22 : decode bM_afterSingle 22 = .ok (.ireturn, 1) := by decide +kernel
theorem dM_afterSingle_23 : decode bM_afterSingle 23 = .ok (.aload_n 0, 1) := by decide +kernel
theorem dM_afterSingle_24 : decode bM_afterSingle 24 = .ok (.bipush 8, 2) := by decide +kernel
theorem dM_afterSingle_26 : decode bM_afterSingle 26 = .ok (.bipush 7, 2) := by decide +kernel
theorem dM_afterSingle_28 : decode bM_afterSingle 28 = .ok (.invokevirtual 114, 3) := by decide +kernel
theorem dM_afterSingle_31 : decode bM_afterSingle 31 = .ok (.iload_n 1, 1) := by decide +kernel
theorem dM_afterSingle_32 : decode bM_afterSingle 32 = .ok (.bipush 43, 2) := by decide +kernel
theorem dM_afterSingle_34 : decode bM_afterSingle 34 = .ok (.if_icmp .ne 12, 3) := by decide +kernel
theorem dM_afterSingle_37 : decode bM_afterSingle 37 = .ok (.aload_n 0, 1) := by decide +kernel
theorem dM_afterSingle_38 : decode bM_afterSingle 38 = .ok (.bipush 7, 2) := by decide +kernel
theorem dM_afterSingle_40 : decode bM_afterSingle 40 = .ok (.invokevirtual 78, 3) := by decide +kernel
theorem dM_afterSingle_43 : decode bM_afterSingle 43 = .ok (.bipush 8, 2) := by decide +kernel
theorem dM_afterSingle_45 : decode bM_afterSingle 45 = .ok (.ireturn, 1) := by decide +kernel
theorem dM_afterSingle_46 : decode bM_afterSingle 46 = .ok (.iload_n 1, 1) := by decide +kernel
theorem dM_afterSingle_47 : decode bM_afterSingle 47 = .ok (.bipush 41, 2) := by decide +kernel
theorem dM_afterSingle_49 : decode bM_afterSingle 49 = .ok (.if_icmp .ne 21, 3) := by decide +kernel
theorem dM_afterSingle_52 : decode bM_afterSingle 52 = .ok (.aload_n 0, 1) := by decide +kernel
theorem dM_afterSingle_53 : decode bM_afterSingle 53 = .ok (.invokevirtual 82, 3) := by decide +kernel
theorem dM_afterSingle_56 : decode bM_afterSingle 56 = .ok (.bipush 10, 2) := by decide +kernel
theorem dM_afterSingle_58 : decode bM_afterSingle 58 = .ok (.if_icmp .ne 12, 3) := by decide +kernel
theorem dM_afterSingle_61 : decode bM_afterSingle 61 = .ok (.aload_n 0, 1) := by decide +kernel
theorem dM_afterSingle_62 : decode bM_afterSingle 62 = .ok (.invokevirtual 111, 3) := by decide +kernel
theorem dM_afterSingle_65 : decode bM_afterSingle 65 = .ok (.aload_n 0, 1) := by decide +kernel
theorem dM_afterSingle_66 : decode bM_afterSingle 66 = .ok (.invokevirtual 163, 3) := by decide +kernel
theorem dM_afterSingle_69 : decode bM_afterSingle 69 = .ok (.ireturn, 1) := by decide +kernel
theorem dM_afterSingle_70 : decode bM_afterSingle 70 = .ok (.aload_n 0, 1) := by decide +kernel
theorem dM_afterSingle_71 : decode bM_afterSingle 71 = .ok (.invokevirtual 82, 3) := by decide +kernel
theorem dM_afterSingle_74 : decode bM_afterSingle 74 = .ok (.bipush 6, 2) := by decide +kernel
theorem dM_afterSingle_76 : decode bM_afterSingle 76 = .ok (.if_icmp .eq 6, 3) := by decide +kernel
theorem dM_afterSingle_79 : decode bM_afterSingle 79 = .ok (.bipush 10, 2) := by decide +kernel
theorem dM_afterSingle_81 : decode bM_afterSingle 81 = .ok (.ireturn, 1) := by decide +kernel
theorem dM_afterSingle_82 : decode bM_afterSingle 82 = .ok (.aload_n 0, 1) := by decide +kernel
theorem dM_afterSingle_83 : decode bM_afterSingle 83 = .ok (.getfield 101, 3) := by decide +kernel
theorem dM_afterSingle_86 : decode bM_afterSingle 86 = .ok (.ifCond .ne 43, 3) := by decide +kernel
theorem dM_afterSingle_89 : decode bM_afterSingle 89 = .ok (.aload_n 0, 1) := by decide +kernel
theorem dM_afterSingle_90 : decode bM_afterSingle 90 = .ok (.iload_n 1, 1) := by decide +kernel
theorem dM_afterSingle_91 : decode bM_afterSingle 91 = .ok (.bipush 60, 2) := by decide +kernel
theorem dM_afterSingle_93 : decode bM_afterSingle 93 = .ok (.if_icmp .ne 7, 3) := by decide +kernel
theorem dM_afterSingle_96 : decode bM_afterSingle 96 = .ok (.iconst 1, 1) := by decide +kernel
theorem dM_afterSingle_97 : decode bM_afterSingle 97 = .ok (.goto 14, 3) := by decide +kernel
theorem dM_afterSingle_100 : decode bM_afterSingle 100 = .ok (.iload_n 1, 1) := by decide +kernel
theorem dM_afterSingle_101 : decode bM_afterSingle 101 = .ok (.bipush 61, 2) := by decide +kernel
theorem dM_afterSingle_103 : decode bM_afterSingle 103 = .ok (.if_icmp .ne 7, 3) := by decide +kernel
theorem dM_afterSingle_106 : decode bM_afterSingle 106 = .ok (.iconst 2, 1) := by decide +kernel
theorem dM_afterSingle_107 : decode bM_afterSingle 107 = .ok (.goto 4, 3) := by decide +kernel
theorem dM_afterSingle_110 : decode bM_afterSingle 110 = .ok (.iconst 0, 1) := by decide +kernel
theorem dM_afterSingle_111 : decode bM_afterSingle 111 = .ok (.putfield 101, 3) := by decide +kernel
theorem dM_afterSingle_114 : decode bM_afterSingle 114 = .ok (.aload_n 0, 1) := by decide +kernel
theorem dM_afterSingle_115 : decode bM_afterSingle 115 = .ok (.getfield 101, 3) := by decide +kernel
theorem dM_afterSingle_118 : decode bM_afterSingle 118 = .ok (.ifCond .le 8, 3) := by decide +kernel
theorem dM_afterSingle_121 : decode bM_afterSingle 121 = .ok (.bipush 8, 2) := by decide +kernel
theorem dM_afterSingle_123 : decode bM_afterSingle 123 = .ok (.goto 5, 3) := by decide +kernel
theorem dM_afterSingle_126 : decode bM_afterSingle 126 = .ok (.bipush 10, 2) := by decide +kernel
theorem dM_afterSingle_128 : decode bM_afterSingle 128 = .ok (.ireturn, 1) := by decide +kernel
theorem dM_afterSingle_129 : decode bM_afterSingle 129 = .ok (.aload_n 0, 1) := by decide +kernel
theorem dM_afterSingle_130 : decode bM_afterSingle 130 = .ok (.dup, 1) := by decide +kernel
theorem dM_afterSingle_131 : decode bM_afterSingle 131 = .ok (.getfield 72, 3) := by decide +kernel
theorem dM_afterSingle_134 : decode bM_afterSingle 134 = .ok (.iconst 1, 1) := by decide +kernel
theorem dM_afterSingle_135 : decode bM_afterSingle 135 = .ok (.isub, 1) := by decide +kernel
theorem dM_afterSingle_136 : decode bM_afterSingle 136 = .ok (.putfield 72, 3) := by decide +kernel
theorem dM_afterSingle_139 : decode bM_afterSingle 139 = .ok (.aload_n 0, 1) := by decide +kernel
theorem dM_afterSingle_140 : decode bM_afterSingle 140 = .ok (.aload_n 0, 1) := by decide +kernel
theorem dM_afterSingle_141 : decode bM_afterSingle 141 = .ok (.getfield 101, 3) := by decide +kernel
theorem dM_afterSingle_144 : decode bM_afterSingle 144 = .ok (.iconst 1, 1) := by decide +kernel
theorem dM_afterSingle_145 : decode bM_afterSingle 145 = .ok (.if_icmp .ne 8, 3) := by decide +kernel
theorem dM_afterSingle_148 : decode bM_afterSingle 148 = .ok (.bipush 22, 2) := by decide +kernel
theorem dM_afterSingle_150 : decode bM_afterSingle 150 = .ok (.goto 5, 3) := by decide +kernel
theorem dM_afterSingle_153 : decode bM_afterSingle 153 = .ok (.bipush 20, 2) := by decide +kernel
theorem dM_afterSingle_155 : decode bM_afterSingle 155 = .ok (.iconst 0, 1) := by decide +kernel
theorem dM_afterSingle_156 : decode bM_afterSingle 156 = .ok (.invokevirtual 86, 3) := by decide +kernel
theorem dM_afterSingle_159 : decode bM_afterSingle 159 = .ok (.iload_n 1, 1) := by decide +kernel
theorem dM_afterSingle_160 : decode bM_afterSingle 160 = .ok (.bipush 93, 2) := by decide +kernel
theorem dM_afterSingle_162 : decode bM_afterSingle 162 = .ok (.if_icmp .ne 10, 3) := by decide +kernel
theorem dM_afterSingle_165 : decode bM_afterSingle 165 = .ok (.aload_n 0, 1) := by decide +kernel
theorem dM_afterSingle_166 : decode bM_afterSingle 166 = .ok (.invokevirtual 117, 3) := by decide +kernel
theorem dM_afterSingle_169 : decode bM_afterSingle 169 = .ok (.goto 5, 3) := by decide +kernel
theorem dM_afterSingle_172 : decode bM_afterSingle 172 = .ok (.bipush 10, 2) := by decide +kernel
theorem dM_afterSingle_174 : decode bM_afterSingle 174 = .ok (.ireturn, 1) := by decide +kernel
section
variable {p : Program} {l : Launch} {e : Env} {R : Room} {s : State} {m : MethodId} {args : Array Value} {below : List Frame} {meth : Method} {c : Code} {G : Gx} {M0 M' : Mem} {r : Option Value ⊕ Nat} {d : Nat} {C : Cx}

def fM_read_95 (n d : Nat) (C : Cx) : Nat → Nat → Int32 → Mem → Rz
  | 0, _, _, _ => none
  | w + 1, a0, x2, M => if mK M a0 = 5 then (if (mI M a0 5) ≤ x2 then (rzM (setI M a0 1 0) fun M3 => (some (.inl (some (.int (mI M3 a0 5))), M3))) else (rzD (mP M a0 16) fun a6 => (if mK M a6 = 23 then (if inA x2 (mL M a6) then (rzD (mP M a0 8) fun a10 => (if mK M a10 = 23 then (if inA x2 (mL M a10) then (if fits .boolean (.int (mI M a6 x2.toNatClampNeg)) = true then (rzM (setI M a10 x2.toNatClampNeg (mI M a6 x2.toNatClampNeg)) fun M15 => (rzD (mP M15 a0 17) fun a20 => (if mK M15 a20 = 23 then (if inA x2 (mL M15 a20) then (rzD (mP M15 a0 9) fun a24 => (if mK M15 a24 = 23 then (if inA x2 (mL M15 a24) then (if fits .boolean (.int (mI M15 a20 x2.toNatClampNeg)) = true then (rzM (setI M15 a24 x2.toNatClampNeg (mI M15 a20 x2.toNatClampNeg)) fun M29 => (fM_read_95 n d C w a0 (x2 + 1) M29)) else none) else none) else none)) else none) else none))) else none) else none) else none)) else none) else none))) else none
set_option maxRecDepth 100000 in
set_option maxHeartbeats 4000000 in
theorem tM_read_95 {n : Nat} (F : FX p s m meth c G R M0 d "HeadCountModel" bM_read 3 (some .int)) (hC : CBs l G d C) : ∀ (w : Nat) (a0 : Nat) (x2 : Int32) (M : Mem) (H : Heap) (locs : List Loc) (cells slots : Nat) (ls : Array Slot), fM_read_95 n d C w a0 x2 M = some (r, M') → RL G M0 M H locs cells slots → lv_has ls 3 [(0, .ref a0), (2, .int x2)] → W p l e R s m args below meth c H locs cells slots (CQ G below s M0 r M') (F0 m 95 ls []) := by
  obtain ⟨hx, hb, hml, hown, hrt, hlk, hex, hK, hRm⟩ := id F
  intro w
  induction w with
  | zero => intro a0 x2 M H locs cells slots ls h; cases h
  | succ w ih =>
    intro a0 x2 M H locs cells slots ls h hR hl
    rw [fM_read_95] at h
    refine lv_iload_n hx hb dM_read_95 rfl (lv_at hl 1 rfl) ?_
    refine lv_aload_n hx hb dM_read_96 rfl (lv_at hl 0 rfl) ?_
    obtain ⟨c1, h⟩ := rz_chk h
    refine rg_getI hx hb hown hK hR hk_M 5 (by decide) kf_M_200 rfl c1 dM_read_97 ?_
    refine lv_icmp_ge (tgt := 133) hx hb dM_read_100 (by decide) (fun c2 => ?_) (fun c2 => ?_)
    · replace h := rz_t c2 h
      refine lv_aload_n hx hb dM_read_133 rfl (lv_at hl 0 rfl) ?_
      refine lv_iconst (v := 0) hx hb dM_read_134 (by decide) ?_
      obtain ⟨M3, q4, h⟩ := rz_m h
      refine rg_putI hx hb hown hK hR hk_M 1 (by decide) kf_M_66 rfl rfl (ty := .int) (by decide +kernel) (Or.inl rfl) rfl c1 dM_read_135 (fun H locs hR => ?_)
      rw [← q4] at hR
      have c5 : mK M3 a0 = 5 := by rw [q4]; exact c1
      refine lv_aload_n hx hb dM_read_138 rfl (lv_at hl 0 rfl) ?_
      refine rg_getI hx hb hown hK hR hk_M 5 (by decide) kf_M_200 rfl c5 dM_read_139 ?_
      cases h
      exact rt_i hx hb hlk hrt (Or.inl rfl) rfl hR dM_read_142
    · replace h := rz_f c2 h
      refine lv_aload_n hx hb dM_read_103 rfl (lv_at hl 0 rfl) ?_
      refine rg_getP hx hb hown hK hR hk_M 8 (by decide) kf_M_20 rfl c1 dM_read_104 ?_
      refine lv_iload_n hx hb dM_read_107 rfl (lv_at hl 1 rfl) ?_
      refine lv_aload_n hx hb dM_read_108 rfl (lv_at hl 0 rfl) ?_
      refine rg_getP hx hb hown hK hR hk_M 16 (by decide) kf_M_33 rfl c1 dM_read_109 ?_
      refine lv_iload_n hx hb dM_read_112 rfl (lv_at hl 1 rfl) ?_
      obtain ⟨a6, e7, h⟩ := rz_d h
      rw [e7]
      obtain ⟨c8, h⟩ := rz_chk h
      obtain ⟨c9, h⟩ := rz_chk h
      refine rg_zald hx hb hK hR c8 c9 dM_read_113 ?_
      obtain ⟨a10, e11, h⟩ := rz_d h
      rw [e11]
      obtain ⟨c12, h⟩ := rz_chk h
      obtain ⟨c13, h⟩ := rz_chk h
      obtain ⟨c14, h⟩ := rz_chk h
      obtain ⟨M15, q16, h⟩ := rz_m h
      refine rg_zast hx hb hK hR c12 c13 c14 dM_read_114 (fun H locs hR => ?_)
      rw [← q16] at hR
      have c17 : mK M15 a0 = 5 := by rw [q16]; exact c1
      have c18 : mK M15 a6 = 23 := by rw [q16]; exact c8
      have c19 : mK M15 a10 = 23 := by rw [q16]; exact c12
      refine lv_aload_n hx hb dM_read_115 rfl (lv_at hl 0 rfl) ?_
      refine rg_getP hx hb hown hK hR hk_M 9 (by decide) kf_M_24 rfl c17 dM_read_116 ?_
      refine lv_iload_n hx hb dM_read_119 rfl (lv_at hl 1 rfl) ?_
      refine lv_aload_n hx hb dM_read_120 rfl (lv_at hl 0 rfl) ?_
      refine rg_getP hx hb hown hK hR hk_M 17 (by decide) kf_M_36 rfl c17 dM_read_121 ?_
      refine lv_iload_n hx hb dM_read_124 rfl (lv_at hl 1 rfl) ?_
      obtain ⟨a20, e21, h⟩ := rz_d h
      rw [e21]
      obtain ⟨c22, h⟩ := rz_chk h
      obtain ⟨c23, h⟩ := rz_chk h
      refine rg_zald hx hb hK hR c22 c23 dM_read_125 ?_
      obtain ⟨a24, e25, h⟩ := rz_d h
      rw [e25]
      obtain ⟨c26, h⟩ := rz_chk h
      obtain ⟨c27, h⟩ := rz_chk h
      obtain ⟨c28, h⟩ := rz_chk h
      obtain ⟨M29, q30, h⟩ := rz_m h
      refine rg_zast hx hb hK hR c26 c27 c28 dM_read_126 (fun H locs hR => ?_)
      rw [← q30] at hR
      have c31 : mK M29 a0 = 5 := by rw [q30]; exact c17
      have c32 : mK M29 a6 = 23 := by rw [q30]; exact c18
      have c33 : mK M29 a10 = 23 := by rw [q30]; exact c19
      have c34 : mK M29 a20 = 23 := by rw [q30]; exact c22
      have c35 : mK M29 a24 = 23 := by rw [q30]; exact c26
      refine lv_iinc (k := 1) (v := x2 + 1) (lv' := [(2, .int (x2 + 1)), (0, .ref a0)]) hx hb dM_read_127 hl rfl (by rw [show Int32.ofInt 1 = 1 from by decide]) (by decide) rfl (fun ls hl => ?_)
      refine lv_goto (tgt := 95) hx hb dM_read_130 (by decide) ?_
      exact ih a0 (x2 + 1) _ _ _ _ _ _ h hR (lv_sub hl [1, 0] rfl)
def fM_read_55 (n d : Nat) (C : Cx) : Nat → Nat → Int32 → Mem → Rz
  | 0, _, _, _ => none
  | w + 1, a0, x2, M => if mK M a0 = 5 then (if (mI M a0 4) ≤ x2 then (fM_read_95 n d C n a0 0 M) else (rzD (mP M a0 14) fun a3 => (if mK M a3 = 21 then (if inA x2 (mL M a3) then (rzD (mP M a0 6) fun a7 => (if mK M a7 = 21 then (if inA x2 (mL M a7) then (rzM (setI M a7 x2.toNatClampNeg (mI M a3 x2.toNatClampNeg)) fun M11 => (rzD (mP M11 a0 15) fun a16 => (if mK M11 a16 = 21 then (if inA x2 (mL M11 a16) then (rzD (mP M11 a0 7) fun a20 => (if mK M11 a20 = 21 then (if inA x2 (mL M11 a20) then (rzM (setI M11 a20 x2.toNatClampNeg (mI M11 a16 x2.toNatClampNeg)) fun M24 => (fM_read_55 n d C w a0 (x2 + 1) M24)) else none) else none)) else none) else none))) else none) else none)) else none) else none))) else none
set_option maxRecDepth 100000 in
set_option maxHeartbeats 4000000 in
theorem tM_read_55 {n : Nat} (F : FX p s m meth c G R M0 d "HeadCountModel" bM_read 3 (some .int)) (hC : CBs l G d C) : ∀ (w : Nat) (a0 : Nat) (x2 : Int32) (M : Mem) (H : Heap) (locs : List Loc) (cells slots : Nat) (ls : Array Slot), fM_read_55 n d C w a0 x2 M = some (r, M') → RL G M0 M H locs cells slots → lv_has ls 3 [(0, .ref a0), (2, .int x2)] → W p l e R s m args below meth c H locs cells slots (CQ G below s M0 r M') (F0 m 55 ls []) := by
  obtain ⟨hx, hb, hml, hown, hrt, hlk, hex, hK, hRm⟩ := id F
  intro w
  induction w with
  | zero => intro a0 x2 M H locs cells slots ls h; cases h
  | succ w ih =>
    intro a0 x2 M H locs cells slots ls h hR hl
    rw [fM_read_55] at h
    refine lv_iload_n hx hb dM_read_55 rfl (lv_at hl 1 rfl) ?_
    refine lv_aload_n hx hb dM_read_56 rfl (lv_at hl 0 rfl) ?_
    obtain ⟨c1, h⟩ := rz_chk h
    refine rg_getI hx hb hown hK hR hk_M 4 (by decide) kf_M_197 rfl c1 dM_read_57 ?_
    refine lv_icmp_ge (tgt := 93) hx hb dM_read_60 (by decide) (fun c2 => ?_) (fun c2 => ?_)
    · replace h := rz_t c2 h
      refine lv_iconst (v := 0) hx hb dM_read_93 (by decide) ?_
      refine lv_istore_n (lv' := [(2, .int 0), (0, .ref a0)]) hx hb dM_read_94 rfl hl (by decide) rfl (fun ls hl => ?_)
      exact tM_read_95 F hC n a0 0 _ _ _ _ _ _ h hR (lv_sub hl [1, 0] rfl)
    · replace h := rz_f c2 h
      refine lv_aload_n hx hb dM_read_63 rfl (lv_at hl 0 rfl) ?_
      refine rg_getP hx hb hown hK hR hk_M 6 (by decide) kf_M_13 rfl c1 dM_read_64 ?_
      refine lv_iload_n hx hb dM_read_67 rfl (lv_at hl 1 rfl) ?_
      refine lv_aload_n hx hb dM_read_68 rfl (lv_at hl 0 rfl) ?_
      refine rg_getP hx hb hown hK hR hk_M 14 (by decide) kf_M_27 rfl c1 dM_read_69 ?_
      refine lv_iload_n hx hb dM_read_72 rfl (lv_at hl 1 rfl) ?_
      obtain ⟨a3, e4, h⟩ := rz_d h
      rw [e4]
      obtain ⟨c5, h⟩ := rz_chk h
      obtain ⟨c6, h⟩ := rz_chk h
      refine rg_iald hx hb hK hR c5 c6 dM_read_73 ?_
      obtain ⟨a7, e8, h⟩ := rz_d h
      rw [e8]
      obtain ⟨c9, h⟩ := rz_chk h
      obtain ⟨c10, h⟩ := rz_chk h
      obtain ⟨M11, q12, h⟩ := rz_m h
      refine rg_iast hx hb hK hR c9 c10 dM_read_74 (fun H locs hR => ?_)
      rw [← q12] at hR
      have c13 : mK M11 a0 = 5 := by rw [q12]; exact c1
      have c14 : mK M11 a3 = 21 := by rw [q12]; exact c5
      have c15 : mK M11 a7 = 21 := by rw [q12]; exact c9
      refine lv_aload_n hx hb dM_read_75 rfl (lv_at hl 0 rfl) ?_
      refine rg_getP hx hb hown hK hR hk_M 7 (by decide) kf_M_17 rfl c13 dM_read_76 ?_
      refine lv_iload_n hx hb dM_read_79 rfl (lv_at hl 1 rfl) ?_
      refine lv_aload_n hx hb dM_read_80 rfl (lv_at hl 0 rfl) ?_
      refine rg_getP hx hb hown hK hR hk_M 15 (by decide) kf_M_30 rfl c13 dM_read_81 ?_
      refine lv_iload_n hx hb dM_read_84 rfl (lv_at hl 1 rfl) ?_
      obtain ⟨a16, e17, h⟩ := rz_d h
      rw [e17]
      obtain ⟨c18, h⟩ := rz_chk h
      obtain ⟨c19, h⟩ := rz_chk h
      refine rg_iald hx hb hK hR c18 c19 dM_read_85 ?_
      obtain ⟨a20, e21, h⟩ := rz_d h
      rw [e21]
      obtain ⟨c22, h⟩ := rz_chk h
      obtain ⟨c23, h⟩ := rz_chk h
      obtain ⟨M24, q25, h⟩ := rz_m h
      refine rg_iast hx hb hK hR c22 c23 dM_read_86 (fun H locs hR => ?_)
      rw [← q25] at hR
      have c26 : mK M24 a0 = 5 := by rw [q25]; exact c13
      have c27 : mK M24 a3 = 21 := by rw [q25]; exact c14
      have c28 : mK M24 a7 = 21 := by rw [q25]; exact c15
      have c29 : mK M24 a16 = 21 := by rw [q25]; exact c18
      have c30 : mK M24 a20 = 21 := by rw [q25]; exact c22
      refine lv_iinc (k := 1) (v := x2 + 1) (lv' := [(2, .int (x2 + 1)), (0, .ref a0)]) hx hb dM_read_87 hl rfl (by rw [show Int32.ofInt 1 = 1 from by decide]) (by decide) rfl (fun ls hl => ?_)
      refine lv_goto (tgt := 55) hx hb dM_read_90 (by decide) ?_
      exact ih a0 (x2 + 1) _ _ _ _ _ _ h hR (lv_sub hl [1, 0] rfl)
def fM_read_15 (n d : Nat) (C : Cx) (a0 : Nat) (x1 : Int32) (xs0 : Int32) (as1 : Nat) (M : Mem) : Rz := if mK M as1 = 5 then (rzM (setI M as1 0 xs0) fun M2 => (if x1 = 0 then (some (.inl (some (.int 0)), M2)) else (if mK M2 a0 = 5 then (if fits .boolean (.int 1) = true then (rzM (setI M2 a0 3 1) fun M8 => (rzM (setI M8 a0 4 (mI M8 a0 12)) fun M12 => (rzM (setI M12 a0 5 (mI M12 a0 13)) fun M16 => (if fits .boolean (.int (mI M16 a0 11)) = true then (rzM (setI M16 a0 10 (mI M16 a0 11)) fun M21 => (fM_read_55 n d C n a0 0 M21)) else none)))) else none) else none))) else none
set_option maxRecDepth 100000 in
set_option maxHeartbeats 4000000 in
theorem tM_read_15 {n : Nat} (F : FX p s m meth c G R M0 d "HeadCountModel" bM_read 3 (some .int)) (hC : CBs l G d C) : ∀ (a0 : Nat) (x1 : Int32) (xs0 : Int32) (as1 : Nat) (M : Mem) (H : Heap) (locs : List Loc) (cells slots : Nat) (ls : Array Slot), fM_read_15 n d C a0 x1 xs0 as1 M = some (r, M') → RL G M0 M H locs cells slots → lv_has ls 3 [(0, .ref a0), (1, .int x1)] → W p l e R s m args below meth c H locs cells slots (CQ G below s M0 r M') (F0 m 15 ls [.int xs0, .ref as1]) := by
  obtain ⟨hx, hb, hml, hown, hrt, hlk, hex, hK, hRm⟩ := id F
  intro a0 x1 xs0 as1 M H locs cells slots ls h hR hl
  unfold fM_read_15 at h
  obtain ⟨c1, h⟩ := rz_chk h
  obtain ⟨M2, q3, h⟩ := rz_m h
  refine rg_putI hx hb hown hK hR hk_M 0 (by decide) kf_M_60 rfl rfl (ty := .int) (by decide +kernel) (Or.inl rfl) rfl c1 dM_read_15 (fun H locs hR => ?_)
  rw [← q3] at hR
  have c4 : mK M2 as1 = 5 := by rw [q3]; exact c1
  refine lv_iload_n hx hb dM_read_18 rfl (lv_at hl 1 rfl) ?_
  refine lv_if_ne (tgt := 24) hx hb dM_read_19 (by decide) (fun c5 => ?_) (fun c5 => ?_)
  · replace h := rz_f c5 h
    refine lv_aload_n hx hb dM_read_24 rfl (lv_at hl 0 rfl) ?_
    refine lv_iconst (v := 1) hx hb dM_read_25 (by decide) ?_
    obtain ⟨c6, h⟩ := rz_chk h
    obtain ⟨c7, h⟩ := rz_chk h
    obtain ⟨M8, q9, h⟩ := rz_m h
    refine rg_putI hx hb hown hK hR hk_M 3 (by decide) kf_M_194 rfl rfl (ty := .boolean) (by decide +kernel) (Or.inr (Or.inr rfl)) c7 c6 dM_read_26 (fun H locs hR => ?_)
    rw [← q9] at hR
    have c10 : mK M8 as1 = 5 := by rw [q9]; exact c4
    have c11 : mK M8 a0 = 5 := by rw [q9]; exact c6
    refine lv_aload_n hx hb dM_read_29 rfl (lv_at hl 0 rfl) ?_
    refine lv_aload_n hx hb dM_read_30 rfl (lv_at hl 0 rfl) ?_
    refine rg_getI hx hb hown hK hR hk_M 12 (by decide) kf_M_69 rfl c11 dM_read_31 ?_
    obtain ⟨M12, q13, h⟩ := rz_m h
    refine rg_putI hx hb hown hK hR hk_M 4 (by decide) kf_M_197 rfl rfl (ty := .int) (by decide +kernel) (Or.inl rfl) rfl c11 dM_read_34 (fun H locs hR => ?_)
    rw [← q13] at hR
    have c14 : mK M12 as1 = 5 := by rw [q13]; exact c10
    have c15 : mK M12 a0 = 5 := by rw [q13]; exact c11
    refine lv_aload_n hx hb dM_read_37 rfl (lv_at hl 0 rfl) ?_
    refine lv_aload_n hx hb dM_read_38 rfl (lv_at hl 0 rfl) ?_
    refine rg_getI hx hb hown hK hR hk_M 13 (by decide) kf_M_98 rfl c15 dM_read_39 ?_
    obtain ⟨M16, q17, h⟩ := rz_m h
    refine rg_putI hx hb hown hK hR hk_M 5 (by decide) kf_M_200 rfl rfl (ty := .int) (by decide +kernel) (Or.inl rfl) rfl c15 dM_read_42 (fun H locs hR => ?_)
    rw [← q17] at hR
    have c18 : mK M16 as1 = 5 := by rw [q17]; exact c14
    have c19 : mK M16 a0 = 5 := by rw [q17]; exact c15
    refine lv_aload_n hx hb dM_read_45 rfl (lv_at hl 0 rfl) ?_
    refine lv_aload_n hx hb dM_read_46 rfl (lv_at hl 0 rfl) ?_
    refine rg_getI hx hb hown hK hR hk_M 11 (by decide) kf_M_184 rfl c19 dM_read_47 ?_
    obtain ⟨c20, h⟩ := rz_chk h
    obtain ⟨M21, q22, h⟩ := rz_m h
    refine rg_putI hx hb hown hK hR hk_M 10 (by decide) kf_M_203 rfl rfl (ty := .boolean) (by decide +kernel) (Or.inr (Or.inr rfl)) c20 c19 dM_read_50 (fun H locs hR => ?_)
    rw [← q22] at hR
    have c23 : mK M21 as1 = 5 := by rw [q22]; exact c18
    have c24 : mK M21 a0 = 5 := by rw [q22]; exact c19
    refine lv_iconst (v := 0) hx hb dM_read_53 (by decide) ?_
    refine lv_istore_n (lv' := [(2, .int 0), (0, .ref a0), (1, .int x1)]) hx hb dM_read_54 rfl hl (by decide) rfl (fun ls hl => ?_)
    exact tM_read_55 F hC n a0 0 _ _ _ _ _ _ h hR (lv_sub hl [1, 0] rfl)
  · replace h := rz_t c5 h
    refine lv_iconst (v := 0) hx hb dM_read_22 (by decide) ?_
    cases h
    exact rt_i hx hb hlk hrt (Or.inl rfl) rfl hR dM_read_23
def fM_read_0 (n d : Nat) (C : Cx) (a0 : Nat) (M : Mem) : Rz := if mK M a0 = 5 then (rzC (C 71 [.ref a0] M) fun v2 M3 => (rzI v2 fun x6 => (if x6 = 0 then (fM_read_15 n d C a0 x6 1 a0 M3) else (fM_read_15 n d C a0 x6 0 a0 M3)))) else none
set_option maxRecDepth 100000 in
set_option maxHeartbeats 4000000 in
theorem tM_read_0 {n : Nat} (F : FX p s m meth c G R M0 d "HeadCountModel" bM_read 3 (some .int)) (hC : CBs l G d C) : ∀ (a0 : Nat) (M : Mem) (H : Heap) (locs : List Loc) (cells slots : Nat) (ls : Array Slot), fM_read_0 n d C a0 M = some (r, M') → RL G M0 M H locs cells slots → lv_has ls 3 [(0, .ref a0)] → W p l e R s m args below meth c H locs cells slots (CQ G below s M0 r M') (F0 m 0 ls []) := by
  obtain ⟨hx, hb, hml, hown, hrt, hlk, hex, hK, hRm⟩ := id F
  intro a0 M H locs cells slots ls h hR hl
  unfold fM_read_0 at h
  refine lv_aload_n hx hb dM_read_0 rfl (lv_at hl 0 rfl) ?_
  obtain ⟨c1, h⟩ := rz_chk h
  obtain ⟨q5, M3, h4, h⟩ := rz_c h
  refine rc_V (rest := []) (As := []) hx hb (hl.1.trans hml.symm) hown hK hR hRm mfM_isSentence kl_M_190 hk_M rfl rfl c1 (by simp [cat_rf, Value.category]) (hC 71 _ _ _ _ h4) dM_read_1 (fun v1 H locs cells slots ev hR => ?_) (fun x1 q1 ce1 H locs cells slots ex hR g1 g2 g3 => ?_)
  · rcases h with ⟨v2, ev2, h⟩ | ⟨e2, ee2, -⟩
    · cases ev.symm.trans ev2
      obtain ⟨x6, rfl, h⟩ := rz_i h
      dsimp only [Option.toList, List.cons_append, List.nil_append]
      refine lv_istore_n (lv' := [(1, .int x6), (0, .ref a0)]) hx hb dM_read_4 rfl hl (by decide) rfl (fun ls hl => ?_)
      refine lv_aload_n hx hb dM_read_5 rfl (lv_at hl 1 rfl) ?_
      refine lv_iload_n hx hb dM_read_6 rfl (lv_at hl 0 rfl) ?_
      refine lv_if_eq (tgt := 14) hx hb dM_read_7 (by decide) (fun c7 => ?_) (fun c7 => ?_)
      · replace h := rz_t c7 h
        refine lv_iconst (v := 1) hx hb dM_read_14 (by decide) ?_
        exact tM_read_15 F hC a0 x6 1 a0 _ _ _ _ _ _ h hR (lv_sub hl [1, 0] rfl)
      · replace h := rz_f c7 h
        refine lv_iconst (v := 0) hx hb dM_read_10 (by decide) ?_
        refine lv_goto (tgt := 15) hx hb dM_read_11 (by decide) ?_
        exact tM_read_15 F hC a0 x6 0 a0 _ _ _ _ _ _ h hR (lv_sub hl [1, 0] rfl)
    · cases ev.symm.trans ee2
  · rcases h with ⟨v2, ev2, -⟩ | ⟨e2, ee2, h⟩
    · cases ex.symm.trans ev2
    · cases ex.symm.trans ee2
      cases h
      exact rt_x hlk hex hR g1 g2 g3
set_option maxRecDepth 100000 in
set_option maxHeartbeats 4000000 in
theorem sM_read {l : Launch} {G : Gx} {n d : Nat} {C : Cx} (hC : CBs l G d C) (a0 : Nat) {M M' : Mem} {r : Option Value ⊕ Nat} (h : fM_read_0 n d C a0 M = some (r, M')) : CB l G (d + 1) yM_read [.ref a0] M r M' := by
  intro p e R s m below meth c hx hn hm hc hlk hK hR hcap hS hU hfr hlo hrc hrs
  obtain ⟨hb, hml, hrt, hex, hown⟩ := fx_of hn hm hc (hK.w mfM_read.2.2.1 rfl #[])
  have F : FX p s m meth c G R M d "HeadCountModel" bM_read 3 (some .int) := ⟨hx, hb, hml, hown, hrt, hlk, hex, hK, hfr, hlo, by rw [← hcap]; exact hrc, hrs⟩
  rw [hml]
  have hl := lv_entry ([.ref a0]) (n := 3) (by simp [lg_sl, cat_rf, Value.category])
  rw [lg_entry_eq]
  generalize (lg_sl ([.ref a0]) ++ List.replicate (3 - (lg_sl ([.ref a0])).length) Slot.unset).toArray = ls at hl ⊢
  have hl : lv_has ls 3 [(0, .ref a0)] := by simpa [lv_args, cat_rf, Value.category] using hl
  exact tM_read_0 F hC a0 _ _ _ _ _ _ h (RL.start hR hcap hS hU) (lv_sub hl [0] rfl)
def fM_isSentence_128 (n d : Nat) (C : Cx) (k55 : Nat → Int32 → Int32 → Mem → Rz) (a0 : Nat) (x1 : Int32) (x2 : Int32) (M : Mem) : Rz := k55 a0 x1 (x2 + 1) M
set_option maxRecDepth 100000 in
set_option maxHeartbeats 4000000 in
theorem tM_isSentence_128 {n : Nat} {k55 : Nat → Int32 → Int32 → Mem → Rz} (F : FX p s m meth c G R M0 d "HeadCountModel" bM_isSentence 4 (some .boolean)) (hC : CBs l G d C) (hk55 : ∀ (a0 : Nat) (x1 : Int32) (x2 : Int32) (M : Mem) (H : Heap) (locs : List Loc) (cells slots : Nat) (ls : Array Slot), k55 a0 x1 x2 M = some (r, M') → RL G M0 M H locs cells slots → lv_has ls 4 [(0, .ref a0), (1, .int x1), (2, .int x2)] → W p l e R s m args below meth c H locs cells slots (CQ G below s M0 r M') (F0 m 55 ls [])) : ∀ (a0 : Nat) (x1 : Int32) (x2 : Int32) (M : Mem) (H : Heap) (locs : List Loc) (cells slots : Nat) (ls : Array Slot), fM_isSentence_128 n d C k55 a0 x1 x2 M = some (r, M') → RL G M0 M H locs cells slots → lv_has ls 4 [(0, .ref a0), (1, .int x1), (2, .int x2)] → W p l e R s m args below meth c H locs cells slots (CQ G below s M0 r M') (F0 m 128 ls []) := by
  obtain ⟨hx, hb, hml, hown, hrt, hlk, hex, hK, hRm⟩ := id F
  intro a0 x1 x2 M H locs cells slots ls h hR hl
  unfold fM_isSentence_128 at h
  refine lv_iinc (k := 2) (v := x2 + 1) (lv' := [(2, .int (x2 + 1)), (0, .ref a0), (1, .int x1)]) hx hb dM_isSentence_128 hl rfl (by rw [show Int32.ofInt 1 = 1 from by decide]) (by decide) rfl (fun ls hl => ?_)
  refine lv_goto (tgt := 55) hx hb dM_isSentence_131 (by decide) ?_
  exact hk55 a0 x1 (x2 + 1) _ _ _ _ _ _ h hR (lv_sub hl [1, 2, 0] rfl)
def fM_isSentence_114 (n d : Nat) (C : Cx) (k55 : Nat → Int32 → Int32 → Mem → Rz) (a0 : Nat) (x2 : Int32) (x3 : Int32) (xs0 : Int32) (as1 : Nat) (M : Mem) : Rz := if mK M as1 = 5 then (if fits .boolean (.int xs0) = true then (rzM (setI M as1 11 xs0) fun M3 => (if mK M3 a0 = 5 then (rzC (C 72 [.ref a0, .int x3] M3) fun v7 M8 => (rzI v7 fun x11 => (if mK M8 a0 = 5 then (rzM (setI M8 a0 18 x11) fun M13 => (fM_isSentence_128 n d C k55 a0 0 x2 M13)) else none))) else none)) else none) else none
set_option maxRecDepth 100000 in
set_option maxHeartbeats 4000000 in
theorem tM_isSentence_114 {n : Nat} {k55 : Nat → Int32 → Int32 → Mem → Rz} (F : FX p s m meth c G R M0 d "HeadCountModel" bM_isSentence 4 (some .boolean)) (hC : CBs l G d C) (hk55 : ∀ (a0 : Nat) (x1 : Int32) (x2 : Int32) (M : Mem) (H : Heap) (locs : List Loc) (cells slots : Nat) (ls : Array Slot), k55 a0 x1 x2 M = some (r, M') → RL G M0 M H locs cells slots → lv_has ls 4 [(0, .ref a0), (1, .int x1), (2, .int x2)] → W p l e R s m args below meth c H locs cells slots (CQ G below s M0 r M') (F0 m 55 ls [])) : ∀ (a0 : Nat) (x2 : Int32) (x3 : Int32) (xs0 : Int32) (as1 : Nat) (M : Mem) (H : Heap) (locs : List Loc) (cells slots : Nat) (ls : Array Slot), fM_isSentence_114 n d C k55 a0 x2 x3 xs0 as1 M = some (r, M') → RL G M0 M H locs cells slots → lv_has ls 4 [(0, .ref a0), (2, .int x2), (3, .int x3)] → W p l e R s m args below meth c H locs cells slots (CQ G below s M0 r M') (F0 m 114 ls [.int xs0, .ref as1]) := by
  obtain ⟨hx, hb, hml, hown, hrt, hlk, hex, hK, hRm⟩ := id F
  intro a0 x2 x3 xs0 as1 M H locs cells slots ls h hR hl
  unfold fM_isSentence_114 at h
  obtain ⟨c1, h⟩ := rz_chk h
  obtain ⟨c2, h⟩ := rz_chk h
  obtain ⟨M3, q4, h⟩ := rz_m h
  refine rg_putI hx hb hown hK hR hk_M 11 (by decide) kf_M_184 rfl rfl (ty := .boolean) (by decide +kernel) (Or.inr (Or.inr rfl)) c2 c1 dM_isSentence_114 (fun H locs hR => ?_)
  rw [← q4] at hR
  have c5 : mK M3 as1 = 5 := by rw [q4]; exact c1
  refine lv_iconst (v := 0) hx hb dM_isSentence_117 (by decide) ?_
  refine lv_istore_n (lv' := [(1, .int 0), (0, .ref a0), (2, .int x2), (3, .int x3)]) hx hb dM_isSentence_118 rfl hl (by decide) rfl (fun ls hl => ?_)
  refine lv_aload_n hx hb dM_isSentence_119 rfl (lv_at hl 1 rfl) ?_
  refine lv_aload_n hx hb dM_isSentence_120 rfl (lv_at hl 1 rfl) ?_
  refine lv_iload_n hx hb dM_isSentence_121 rfl (lv_at hl 3 rfl) ?_
  obtain ⟨c6, h⟩ := rz_chk h
  obtain ⟨q10, M8, h9, h⟩ := rz_c h
  refine rc_V (rest := [.ref a0]) (As := [.int x3]) hx hb (hl.1.trans hml.symm) hown hK hR hRm mfM_next kl_M_187 hk_M rfl rfl c6 (by simp [cat_rf, Value.category]) (hC 72 _ _ _ _ h9) dM_isSentence_122 (fun v1 H locs cells slots ev hR => ?_) (fun x1 q1 ce1 H locs cells slots ex hR g1 g2 g3 => ?_)
  · rcases h with ⟨v7, ev2, h⟩ | ⟨e2, ee2, -⟩
    · cases ev.symm.trans ev2
      obtain ⟨x11, rfl, h⟩ := rz_i h
      dsimp only [Option.toList, List.cons_append, List.nil_append]
      obtain ⟨c12, h⟩ := rz_chk h
      obtain ⟨M13, q14, h⟩ := rz_m h
      refine rg_putI hx hb hown hK hR hk_M 18 (by decide) kf_M_166 rfl rfl (ty := .int) (by decide +kernel) (Or.inl rfl) rfl c12 dM_isSentence_125 (fun H locs hR => ?_)
      rw [← q14] at hR
      have c15 : mK M13 a0 = 5 := by rw [q14]; exact c12
      exact tM_isSentence_128 F hC hk55 a0 0 x2 _ _ _ _ _ _ h hR (lv_sub hl [1, 0, 2] rfl)
    · cases ev.symm.trans ee2
  · rcases h with ⟨v2, ev2, -⟩ | ⟨e2, ee2, h⟩
    · cases ex.symm.trans ev2
    · cases ex.symm.trans ee2
      cases h
      exact rt_x hlk hex hR g1 g2 g3
def fM_isSentence_102 (n d : Nat) (C : Cx) (k55 : Nat → Int32 → Int32 → Mem → Rz) (a0 : Nat) (x2 : Int32) (x3 : Int32) (as0 : Nat) (M : Mem) : Rz := fM_isSentence_114 n d C k55 a0 x2 x3 1 as0 M
set_option maxRecDepth 100000 in
set_option maxHeartbeats 4000000 in
theorem tM_isSentence_102 {n : Nat} {k55 : Nat → Int32 → Int32 → Mem → Rz} (F : FX p s m meth c G R M0 d "HeadCountModel" bM_isSentence 4 (some .boolean)) (hC : CBs l G d C) (hk55 : ∀ (a0 : Nat) (x1 : Int32) (x2 : Int32) (M : Mem) (H : Heap) (locs : List Loc) (cells slots : Nat) (ls : Array Slot), k55 a0 x1 x2 M = some (r, M') → RL G M0 M H locs cells slots → lv_has ls 4 [(0, .ref a0), (1, .int x1), (2, .int x2)] → W p l e R s m args below meth c H locs cells slots (CQ G below s M0 r M') (F0 m 55 ls [])) : ∀ (a0 : Nat) (x2 : Int32) (x3 : Int32) (as0 : Nat) (M : Mem) (H : Heap) (locs : List Loc) (cells slots : Nat) (ls : Array Slot), fM_isSentence_102 n d C k55 a0 x2 x3 as0 M = some (r, M') → RL G M0 M H locs cells slots → lv_has ls 4 [(0, .ref a0), (2, .int x2), (3, .int x3)] → W p l e R s m args below meth c H locs cells slots (CQ G below s M0 r M') (F0 m 102 ls [.ref as0]) := by
  obtain ⟨hx, hb, hml, hown, hrt, hlk, hex, hK, hRm⟩ := id F
  intro a0 x2 x3 as0 M H locs cells slots ls h hR hl
  unfold fM_isSentence_102 at h
  refine lv_iconst (v := 1) hx hb dM_isSentence_102 (by decide) ?_
  refine lv_goto (tgt := 114) hx hb dM_isSentence_103 (by decide) ?_
  exact tM_isSentence_114 F hC hk55 a0 x2 x3 1 as0 _ _ _ _ _ _ h hR (lv_sub hl [0, 1, 2] rfl)
def fM_isSentence_213 (n d : Nat) (C : Cx) (xs0 : Int32) (M : Mem) : Rz := if fits .boolean (.int xs0) = true then (some (.inl (some (.int xs0)), M)) else none
set_option maxRecDepth 100000 in
set_option maxHeartbeats 4000000 in
theorem tM_isSentence_213 {n : Nat} (F : FX p s m meth c G R M0 d "HeadCountModel" bM_isSentence 4 (some .boolean)) (hC : CBs l G d C) : ∀ (xs0 : Int32) (M : Mem) (H : Heap) (locs : List Loc) (cells slots : Nat) (ls : Array Slot), fM_isSentence_213 n d C xs0 M = some (r, M') → RL G M0 M H locs cells slots → lv_has ls 4 [] → W p l e R s m args below meth c H locs cells slots (CQ G below s M0 r M') (F0 m 213 ls [.int xs0]) := by
  obtain ⟨hx, hb, hml, hown, hrt, hlk, hex, hK, hRm⟩ := id F
  intro xs0 M H locs cells slots ls h hR hl
  unfold fM_isSentence_213 at h
  obtain ⟨c1, h⟩ := rz_chk h
  cases h
  exact rt_i hx hb hlk hrt (Or.inr (Or.inr rfl)) c1 hR dM_isSentence_213
def fM_isSentence_185 (n d : Nat) (C : Cx) (a0 : Nat) (M : Mem) : Rz := if mK M a0 = 5 then (if (mI M a0 18) = 1 then (rzC (C 84 [.ref a0, .int 2, .int 1] M) fun v3 M4 => (rzV v3 (if mK M4 a0 = 5 then (if (mI M4 a0 19) = 0 then (fM_isSentence_213 n d C 1 M4) else (fM_isSentence_213 n d C 0 M4)) else none))) else (if fits .boolean (.int 0) = true then (some (.inl (some (.int 0)), M)) else none)) else none
set_option maxRecDepth 100000 in
set_option maxHeartbeats 4000000 in
theorem tM_isSentence_185 {n : Nat} (F : FX p s m meth c G R M0 d "HeadCountModel" bM_isSentence 4 (some .boolean)) (hC : CBs l G d C) : ∀ (a0 : Nat) (M : Mem) (H : Heap) (locs : List Loc) (cells slots : Nat) (ls : Array Slot), fM_isSentence_185 n d C a0 M = some (r, M') → RL G M0 M H locs cells slots → lv_has ls 4 [(0, .ref a0)] → W p l e R s m args below meth c H locs cells slots (CQ G below s M0 r M') (F0 m 185 ls []) := by
  obtain ⟨hx, hb, hml, hown, hrt, hlk, hex, hK, hRm⟩ := id F
  intro a0 M H locs cells slots ls h hR hl
  unfold fM_isSentence_185 at h
  refine lv_aload_n hx hb dM_isSentence_185 rfl (lv_at hl 0 rfl) ?_
  obtain ⟨c1, h⟩ := rz_chk h
  refine rg_getI hx hb hown hK hR hk_M 18 (by decide) kf_M_166 rfl c1 dM_isSentence_186 ?_
  refine lv_iconst (v := 1) hx hb dM_isSentence_189 (by decide) ?_
  refine lv_icmp_eq (tgt := 195) hx hb dM_isSentence_190 (by decide) (fun c2 => ?_) (fun c2 => ?_)
  · replace h := rz_t c2 h
    refine lv_aload_n hx hb dM_isSentence_195 rfl (lv_at hl 0 rfl) ?_
    refine lv_iconst (v := 2) hx hb dM_isSentence_196 (by decide) ?_
    refine lv_iconst (v := 1) hx hb dM_isSentence_197 (by decide) ?_
    obtain ⟨q6, M4, h5, h⟩ := rz_c h
    refine rc_V (rest := []) (As := [.int 2, .int 1]) hx hb (hl.1.trans hml.symm) hown hK hR hRm mfM_settle kl_M_114 hk_M rfl rfl c1 (by simp [cat_rf, Value.category]) (hC 84 _ _ _ _ h5) dM_isSentence_198 (fun v1 H locs cells slots ev hR => ?_) (fun x1 q1 ce1 H locs cells slots ex hR g1 g2 g3 => ?_)
    · rcases h with ⟨v3, ev2, h⟩ | ⟨e2, ee2, -⟩
      · cases ev.symm.trans ev2
        obtain ⟨rfl, h⟩ := rz_v h
        dsimp only [Option.toList, List.cons_append, List.nil_append]
        refine lv_aload_n hx hb dM_isSentence_201 rfl (lv_at hl 0 rfl) ?_
        obtain ⟨c7, h⟩ := rz_chk h
        refine rg_getI hx hb hown hK hR hk_M 19 (by decide) kf_M_72 rfl c7 dM_isSentence_202 ?_
        refine lv_if_ne (tgt := 212) hx hb dM_isSentence_205 (by decide) (fun c8 => ?_) (fun c8 => ?_)
        · replace h := rz_f c8 h
          refine lv_iconst (v := 0) hx hb dM_isSentence_212 (by decide) ?_
          exact tM_isSentence_213 F hC 0 _ _ _ _ _ _ h hR (lv_sub hl [] rfl)
        · replace h := rz_t c8 h
          refine lv_iconst (v := 1) hx hb dM_isSentence_208 (by decide) ?_
          refine lv_goto (tgt := 213) hx hb dM_isSentence_209 (by decide) ?_
          exact tM_isSentence_213 F hC 1 _ _ _ _ _ _ h hR (lv_sub hl [] rfl)
      · cases ev.symm.trans ee2
    · rcases h with ⟨v2, ev2, -⟩ | ⟨e2, ee2, h⟩
      · cases ex.symm.trans ev2
      · cases ex.symm.trans ee2
        cases h
        exact rt_x hlk hex hR g1 g2 g3
  · replace h := rz_f c2 h
    refine lv_iconst (v := 0) hx hb dM_isSentence_193 (by decide) ?_
    obtain ⟨c9, h⟩ := rz_chk h
    cases h
    exact rt_i hx hb hlk hrt (Or.inr (Or.inr rfl)) c9 hR dM_isSentence_194
def fM_isSentence_182 (n d : Nat) (C : Cx) (a0 : Nat) (xs0 : Int32) (as1 : Nat) (M : Mem) : Rz := if mK M as1 = 5 then (rzM (setI M as1 18 xs0) fun M2 => (fM_isSentence_185 n d C a0 M2)) else none
set_option maxRecDepth 100000 in
set_option maxHeartbeats 4000000 in
theorem tM_isSentence_182 {n : Nat} (F : FX p s m meth c G R M0 d "HeadCountModel" bM_isSentence 4 (some .boolean)) (hC : CBs l G d C) : ∀ (a0 : Nat) (xs0 : Int32) (as1 : Nat) (M : Mem) (H : Heap) (locs : List Loc) (cells slots : Nat) (ls : Array Slot), fM_isSentence_182 n d C a0 xs0 as1 M = some (r, M') → RL G M0 M H locs cells slots → lv_has ls 4 [(0, .ref a0)] → W p l e R s m args below meth c H locs cells slots (CQ G below s M0 r M') (F0 m 182 ls [.int xs0, .ref as1]) := by
  obtain ⟨hx, hb, hml, hown, hrt, hlk, hex, hK, hRm⟩ := id F
  intro a0 xs0 as1 M H locs cells slots ls h hR hl
  unfold fM_isSentence_182 at h
  obtain ⟨c1, h⟩ := rz_chk h
  obtain ⟨M2, q3, h⟩ := rz_m h
  refine rg_putI hx hb hown hK hR hk_M 18 (by decide) kf_M_166 rfl rfl (ty := .int) (by decide +kernel) (Or.inl rfl) rfl c1 dM_isSentence_182 (fun H locs hR => ?_)
  rw [← q3] at hR
  have c4 : mK M2 as1 = 5 := by rw [q3]; exact c1
  exact tM_isSentence_185 F hC a0 _ _ _ _ _ _ h hR (lv_sub hl [0] rfl)
def fM_isSentence_163 (n d : Nat) (C : Cx) (a0 : Nat) (xs0 : Int32) (M : Mem) : Rz := if mK M a0 = 5 then (rzC (C 72 [.ref a0, .int 32] M) fun v2 M3 => (rzI v2 fun x6 => (if xs0 = 0 then (fM_isSentence_182 n d C a0 10 a0 M3) else (fM_isSentence_182 n d C a0 1 a0 M3)))) else none
set_option maxRecDepth 100000 in
set_option maxHeartbeats 4000000 in
theorem tM_isSentence_163 {n : Nat} (F : FX p s m meth c G R M0 d "HeadCountModel" bM_isSentence 4 (some .boolean)) (hC : CBs l G d C) : ∀ (a0 : Nat) (xs0 : Int32) (M : Mem) (H : Heap) (locs : List Loc) (cells slots : Nat) (ls : Array Slot), fM_isSentence_163 n d C a0 xs0 M = some (r, M') → RL G M0 M H locs cells slots → lv_has ls 4 [(0, .ref a0)] → W p l e R s m args below meth c H locs cells slots (CQ G below s M0 r M') (F0 m 163 ls [.int xs0]) := by
  obtain ⟨hx, hb, hml, hown, hrt, hlk, hex, hK, hRm⟩ := id F
  intro a0 xs0 M H locs cells slots ls h hR hl
  unfold fM_isSentence_163 at h
  refine lv_istore_n (lv' := [(2, .int xs0), (0, .ref a0)]) hx hb dM_isSentence_163 rfl hl (by decide) rfl (fun ls hl => ?_)
  refine lv_aload_n hx hb dM_isSentence_164 rfl (lv_at hl 1 rfl) ?_
  refine lv_bipush (v := 32) hx hb dM_isSentence_165 (by decide) ?_
  obtain ⟨c1, h⟩ := rz_chk h
  obtain ⟨q5, M3, h4, h⟩ := rz_c h
  refine rc_V (rest := []) (As := [.int 32]) hx hb (hl.1.trans hml.symm) hown hK hR hRm mfM_next kl_M_187 hk_M rfl rfl c1 (by simp [cat_rf, Value.category]) (hC 72 _ _ _ _ h4) dM_isSentence_167 (fun v1 H locs cells slots ev hR => ?_) (fun x1 q1 ce1 H locs cells slots ex hR g1 g2 g3 => ?_)
  · rcases h with ⟨v2, ev2, h⟩ | ⟨e2, ee2, -⟩
    · cases ev.symm.trans ev2
      obtain ⟨x6, rfl, h⟩ := rz_i h
      dsimp only [Option.toList, List.cons_append, List.nil_append]
      refine lv_pop hx hb dM_isSentence_170 rfl ?_
      refine lv_aload_n hx hb dM_isSentence_171 rfl (lv_at hl 1 rfl) ?_
      refine lv_iload_n hx hb dM_isSentence_172 rfl (lv_at hl 0 rfl) ?_
      refine lv_if_eq (tgt := 180) hx hb dM_isSentence_173 (by decide) (fun c7 => ?_) (fun c7 => ?_)
      · replace h := rz_t c7 h
        refine lv_bipush (v := 10) hx hb dM_isSentence_180 (by decide) ?_
        exact tM_isSentence_182 F hC a0 10 a0 _ _ _ _ _ _ h hR (lv_sub hl [1] rfl)
      · replace h := rz_f c7 h
        refine lv_iconst (v := 1) hx hb dM_isSentence_176 (by decide) ?_
        refine lv_goto (tgt := 182) hx hb dM_isSentence_177 (by decide) ?_
        exact tM_isSentence_182 F hC a0 1 a0 _ _ _ _ _ _ h hR (lv_sub hl [1] rfl)
    · cases ev.symm.trans ee2
  · rcases h with ⟨v2, ev2, -⟩ | ⟨e2, ee2, h⟩
    · cases ex.symm.trans ev2
    · cases ex.symm.trans ee2
      cases h
      exact rt_x hlk hex hR g1 g2 g3
def fM_isSentence_151 (n d : Nat) (C : Cx) (a0 : Nat) (M : Mem) : Rz := if mK M a0 = 5 then (if (mI M a0 33) ≤ 0 then (fM_isSentence_163 n d C a0 0 M) else (fM_isSentence_163 n d C a0 1 M)) else none
set_option maxRecDepth 100000 in
set_option maxHeartbeats 4000000 in
theorem tM_isSentence_151 {n : Nat} (F : FX p s m meth c G R M0 d "HeadCountModel" bM_isSentence 4 (some .boolean)) (hC : CBs l G d C) : ∀ (a0 : Nat) (M : Mem) (H : Heap) (locs : List Loc) (cells slots : Nat) (ls : Array Slot), fM_isSentence_151 n d C a0 M = some (r, M') → RL G M0 M H locs cells slots → lv_has ls 4 [(0, .ref a0)] → W p l e R s m args below meth c H locs cells slots (CQ G below s M0 r M') (F0 m 151 ls []) := by
  obtain ⟨hx, hb, hml, hown, hrt, hlk, hex, hK, hRm⟩ := id F
  intro a0 M H locs cells slots ls h hR hl
  unfold fM_isSentence_151 at h
  refine lv_aload_n hx hb dM_isSentence_151 rfl (lv_at hl 0 rfl) ?_
  obtain ⟨c1, h⟩ := rz_chk h
  refine rg_getI hx hb hown hK hR hk_M 33 (by decide) kf_M_101 rfl c1 dM_isSentence_152 ?_
  refine lv_if_le (tgt := 162) hx hb dM_isSentence_155 (by decide) (fun c2 => ?_) (fun c2 => ?_)
  · replace h := rz_t c2 h
    refine lv_iconst (v := 0) hx hb dM_isSentence_162 (by decide) ?_
    exact tM_isSentence_163 F hC a0 0 _ _ _ _ _ _ h hR (lv_sub hl [0] rfl)
  · replace h := rz_f c2 h
    refine lv_iconst (v := 1) hx hb dM_isSentence_158 (by decide) ?_
    refine lv_goto (tgt := 163) hx hb dM_isSentence_159 (by decide) ?_
    exact tM_isSentence_163 F hC a0 1 _ _ _ _ _ _ h hR (lv_sub hl [0] rfl)
def fM_isSentence_134 (n d : Nat) (C : Cx) (a0 : Nat) (M : Mem) : Rz := if mK M a0 = 5 then (if (mI M a0 18) = 5 then (fM_isSentence_151 n d C a0 M) else (if (mI M a0 18) = 7 then (fM_isSentence_151 n d C a0 M) else (fM_isSentence_185 n d C a0 M))) else none
set_option maxRecDepth 100000 in
set_option maxHeartbeats 4000000 in
theorem tM_isSentence_134 {n : Nat} (F : FX p s m meth c G R M0 d "HeadCountModel" bM_isSentence 4 (some .boolean)) (hC : CBs l G d C) : ∀ (a0 : Nat) (M : Mem) (H : Heap) (locs : List Loc) (cells slots : Nat) (ls : Array Slot), fM_isSentence_134 n d C a0 M = some (r, M') → RL G M0 M H locs cells slots → lv_has ls 4 [(0, .ref a0)] → W p l e R s m args below meth c H locs cells slots (CQ G below s M0 r M') (F0 m 134 ls []) := by
  obtain ⟨hx, hb, hml, hown, hrt, hlk, hex, hK, hRm⟩ := id F
  intro a0 M H locs cells slots ls h hR hl
  unfold fM_isSentence_134 at h
  refine lv_aload_n hx hb dM_isSentence_134 rfl (lv_at hl 0 rfl) ?_
  obtain ⟨c1, h⟩ := rz_chk h
  refine rg_getI hx hb hown hK hR hk_M 18 (by decide) kf_M_166 rfl c1 dM_isSentence_135 ?_
  refine lv_iconst (v := 5) hx hb dM_isSentence_138 (by decide) ?_
  refine lv_icmp_eq (tgt := 151) hx hb dM_isSentence_139 (by decide) (fun c2 => ?_) (fun c2 => ?_)
  · replace h := rz_t c2 h
    exact tM_isSentence_151 F hC a0 _ _ _ _ _ _ h hR (lv_sub hl [0] rfl)
  · replace h := rz_f c2 h
    refine lv_aload_n hx hb dM_isSentence_142 rfl (lv_at hl 0 rfl) ?_
    refine rg_getI hx hb hown hK hR hk_M 18 (by decide) kf_M_166 rfl c1 dM_isSentence_143 ?_
    refine lv_bipush (v := 7) hx hb dM_isSentence_146 (by decide) ?_
    refine lv_icmp_ne (tgt := 185) hx hb dM_isSentence_148 (by decide) (fun c3 => ?_) (fun c3 => ?_)
    · replace h := rz_f c3 h
      exact tM_isSentence_185 F hC a0 _ _ _ _ _ _ h hR (lv_sub hl [0] rfl)
    · replace h := rz_t c3 h
      exact tM_isSentence_151 F hC a0 _ _ _ _ _ _ h hR (lv_sub hl [0] rfl)
def fM_isSentence_55 (n d : Nat) (C : Cx) : Nat → Nat → Int32 → Int32 → Mem → Rz
  | 0, _, _, _, _ => none
  | w + 1, a0, x1, x2, M => if mK M a0 = 5 then (if (mI M a0 1) ≤ x2 then (fM_isSentence_134 n d C a0 M) else (if (mI M a0 18) = 10 then (fM_isSentence_134 n d C a0 M) else (rzD (mP M a0 2) fun a4 => (if mK M a4 = 22 then (if inA x2 (mL M a4) then (if (mI M a4 x2.toNatClampNeg) = 32 then (fM_isSentence_128 n d C (fM_isSentence_55 n d C w) a0 x1 x2 M) else (if x1 = 0 then (fM_isSentence_114 n d C (fM_isSentence_55 n d C w) a0 x2 (mI M a4 x2.toNatClampNeg) (mI M a0 11) a0 M) else (if (mI M a4 x2.toNatClampNeg) = 65 then (fM_isSentence_102 n d C (fM_isSentence_55 n d C w) a0 x2 (mI M a4 x2.toNatClampNeg) a0 M) else (if (mI M a4 x2.toNatClampNeg) = 69 then (fM_isSentence_102 n d C (fM_isSentence_55 n d C w) a0 x2 (mI M a4 x2.toNatClampNeg) a0 M) else (fM_isSentence_114 n d C (fM_isSentence_55 n d C w) a0 x2 (mI M a4 x2.toNatClampNeg) 0 a0 M))))) else none) else none)))) else none
set_option maxRecDepth 100000 in
set_option maxHeartbeats 4000000 in
theorem tM_isSentence_55 {n : Nat} (F : FX p s m meth c G R M0 d "HeadCountModel" bM_isSentence 4 (some .boolean)) (hC : CBs l G d C) : ∀ (w : Nat) (a0 : Nat) (x1 : Int32) (x2 : Int32) (M : Mem) (H : Heap) (locs : List Loc) (cells slots : Nat) (ls : Array Slot), fM_isSentence_55 n d C w a0 x1 x2 M = some (r, M') → RL G M0 M H locs cells slots → lv_has ls 4 [(0, .ref a0), (1, .int x1), (2, .int x2)] → W p l e R s m args below meth c H locs cells slots (CQ G below s M0 r M') (F0 m 55 ls []) := by
  obtain ⟨hx, hb, hml, hown, hrt, hlk, hex, hK, hRm⟩ := id F
  intro w
  induction w with
  | zero => intro a0 x1 x2 M H locs cells slots ls h; cases h
  | succ w ih =>
    intro a0 x1 x2 M H locs cells slots ls h hR hl
    rw [fM_isSentence_55] at h
    refine lv_iload_n hx hb dM_isSentence_55 rfl (lv_at hl 2 rfl) ?_
    refine lv_aload_n hx hb dM_isSentence_56 rfl (lv_at hl 0 rfl) ?_
    obtain ⟨c1, h⟩ := rz_chk h
    refine rg_getI hx hb hown hK hR hk_M 1 (by decide) kf_M_66 rfl c1 dM_isSentence_57 ?_
    refine lv_icmp_ge (tgt := 134) hx hb dM_isSentence_60 (by decide) (fun c2 => ?_) (fun c2 => ?_)
    · replace h := rz_t c2 h
      exact tM_isSentence_134 F hC a0 _ _ _ _ _ _ h hR (lv_sub hl [0] rfl)
    · replace h := rz_f c2 h
      refine lv_aload_n hx hb dM_isSentence_63 rfl (lv_at hl 0 rfl) ?_
      refine rg_getI hx hb hown hK hR hk_M 18 (by decide) kf_M_166 rfl c1 dM_isSentence_64 ?_
      refine lv_bipush (v := 10) hx hb dM_isSentence_67 (by decide) ?_
      refine lv_icmp_eq (tgt := 134) hx hb dM_isSentence_69 (by decide) (fun c3 => ?_) (fun c3 => ?_)
      · replace h := rz_t c3 h
        exact tM_isSentence_134 F hC a0 _ _ _ _ _ _ h hR (lv_sub hl [0] rfl)
      · replace h := rz_f c3 h
        refine lv_aload_n hx hb dM_isSentence_72 rfl (lv_at hl 0 rfl) ?_
        refine rg_getP hx hb hown hK hR hk_M 2 (by decide) kf_M_7 rfl c1 dM_isSentence_73 ?_
        refine lv_iload_n hx hb dM_isSentence_76 rfl (lv_at hl 2 rfl) ?_
        obtain ⟨a4, e5, h⟩ := rz_d h
        rw [e5]
        obtain ⟨c6, h⟩ := rz_chk h
        obtain ⟨c7, h⟩ := rz_chk h
        refine rg_cald hx hb hK hR c6 c7 dM_isSentence_77 ?_
        refine lv_istore_n (lv' := [(3, .int (mI M a4 x2.toNatClampNeg)), (0, .ref a0), (1, .int x1), (2, .int x2)]) hx hb dM_isSentence_78 rfl hl (by decide) rfl (fun ls hl => ?_)
        refine lv_iload_n hx hb dM_isSentence_79 rfl (lv_at hl 0 rfl) ?_
        refine lv_bipush (v := 32) hx hb dM_isSentence_80 (by decide) ?_
        refine lv_icmp_eq (tgt := 128) hx hb dM_isSentence_82 (by decide) (fun c8 => ?_) (fun c8 => ?_)
        · replace h := rz_t c8 h
          exact tM_isSentence_128 F hC ih a0 x1 x2 _ _ _ _ _ _ h hR (lv_sub hl [1, 2, 3] rfl)
        · replace h := rz_f c8 h
          refine lv_aload_n hx hb dM_isSentence_85 rfl (lv_at hl 1 rfl) ?_
          refine lv_iload_n hx hb dM_isSentence_86 rfl (lv_at hl 2 rfl) ?_
          refine lv_if_eq (tgt := 110) hx hb dM_isSentence_87 (by decide) (fun c9 => ?_) (fun c9 => ?_)
          · replace h := rz_t c9 h
            refine lv_aload_n hx hb dM_isSentence_110 rfl (lv_at hl 1 rfl) ?_
            refine rg_getI hx hb hown hK hR hk_M 11 (by decide) kf_M_184 rfl c1 dM_isSentence_111 ?_
            exact tM_isSentence_114 F hC ih a0 x2 (mI M a4 x2.toNatClampNeg) (mI M a0 11) a0 _ _ _ _ _ _ h hR (lv_sub hl [1, 3, 0] rfl)
          · replace h := rz_f c9 h
            refine lv_iload_n hx hb dM_isSentence_90 rfl (lv_at hl 0 rfl) ?_
            refine lv_bipush (v := 65) hx hb dM_isSentence_91 (by decide) ?_
            refine lv_icmp_eq (tgt := 102) hx hb dM_isSentence_93 (by decide) (fun c10 => ?_) (fun c10 => ?_)
            · replace h := rz_t c10 h
              exact tM_isSentence_102 F hC ih a0 x2 (mI M a4 x2.toNatClampNeg) a0 _ _ _ _ _ _ h hR (lv_sub hl [1, 3, 0] rfl)
            · replace h := rz_f c10 h
              refine lv_iload_n hx hb dM_isSentence_96 rfl (lv_at hl 0 rfl) ?_
              refine lv_bipush (v := 69) hx hb dM_isSentence_97 (by decide) ?_
              refine lv_icmp_ne (tgt := 106) hx hb dM_isSentence_99 (by decide) (fun c11 => ?_) (fun c11 => ?_)
              · replace h := rz_f c11 h
                refine lv_iconst (v := 0) hx hb dM_isSentence_106 (by decide) ?_
                refine lv_goto (tgt := 114) hx hb dM_isSentence_107 (by decide) ?_
                exact tM_isSentence_114 F hC ih a0 x2 (mI M a4 x2.toNatClampNeg) 0 a0 _ _ _ _ _ _ h hR (lv_sub hl [1, 3, 0] rfl)
              · replace h := rz_t c11 h
                exact tM_isSentence_102 F hC ih a0 x2 (mI M a4 x2.toNatClampNeg) a0 _ _ _ _ _ _ h hR (lv_sub hl [1, 3, 0] rfl)
def fM_isSentence_27 (n d : Nat) (C : Cx) : Nat → Nat → Int32 → Mem → Rz
  | 0, _, _, _ => none
  | w + 1, a0, x1, M => if 6 ≤ x1 then (if mK M a0 = 5 then (if fits .boolean (.int 0) = true then (rzM (setI M a0 11 0) fun M4 => (fM_isSentence_55 n d C n a0 1 0 M4)) else none) else none) else (if mK M a0 = 5 then (rzD (mP M a0 23) fun a8 => (if mK M a8 = 21 then (if inA x1 (mL M a8) then (rzM (setI M a8 x1.toNatClampNeg ((-1))) fun M12 => (fM_isSentence_27 n d C w a0 (x1 + 1) M12)) else none) else none)) else none)
set_option maxRecDepth 100000 in
set_option maxHeartbeats 4000000 in
theorem tM_isSentence_27 {n : Nat} (F : FX p s m meth c G R M0 d "HeadCountModel" bM_isSentence 4 (some .boolean)) (hC : CBs l G d C) : ∀ (w : Nat) (a0 : Nat) (x1 : Int32) (M : Mem) (H : Heap) (locs : List Loc) (cells slots : Nat) (ls : Array Slot), fM_isSentence_27 n d C w a0 x1 M = some (r, M') → RL G M0 M H locs cells slots → lv_has ls 4 [(0, .ref a0), (1, .int x1)] → W p l e R s m args below meth c H locs cells slots (CQ G below s M0 r M') (F0 m 27 ls []) := by
  obtain ⟨hx, hb, hml, hown, hrt, hlk, hex, hK, hRm⟩ := id F
  intro w
  induction w with
  | zero => intro a0 x1 M H locs cells slots ls h; cases h
  | succ w ih =>
    intro a0 x1 M H locs cells slots ls h hR hl
    rw [fM_isSentence_27] at h
    refine lv_iload_n hx hb dM_isSentence_27 rfl (lv_at hl 1 rfl) ?_
    refine lv_bipush (v := 6) hx hb dM_isSentence_28 (by decide) ?_
    refine lv_icmp_ge (tgt := 46) hx hb dM_isSentence_30 (by decide) (fun c1 => ?_) (fun c1 => ?_)
    · replace h := rz_t c1 h
      refine lv_aload_n hx hb dM_isSentence_46 rfl (lv_at hl 0 rfl) ?_
      refine lv_iconst (v := 0) hx hb dM_isSentence_47 (by decide) ?_
      obtain ⟨c2, h⟩ := rz_chk h
      obtain ⟨c3, h⟩ := rz_chk h
      obtain ⟨M4, q5, h⟩ := rz_m h
      refine rg_putI hx hb hown hK hR hk_M 11 (by decide) kf_M_184 rfl rfl (ty := .boolean) (by decide +kernel) (Or.inr (Or.inr rfl)) c3 c2 dM_isSentence_48 (fun H locs hR => ?_)
      rw [← q5] at hR
      have c6 : mK M4 a0 = 5 := by rw [q5]; exact c2
      refine lv_iconst (v := 1) hx hb dM_isSentence_51 (by decide) ?_
      refine lv_istore_n (lv' := [(1, .int 1), (0, .ref a0)]) hx hb dM_isSentence_52 rfl hl (by decide) rfl (fun ls hl => ?_)
      refine lv_iconst (v := 0) hx hb dM_isSentence_53 (by decide) ?_
      refine lv_istore_n (lv' := [(2, .int 0), (1, .int 1), (0, .ref a0)]) hx hb dM_isSentence_54 rfl hl (by decide) rfl (fun ls hl => ?_)
      exact tM_isSentence_55 F hC n a0 1 0 _ _ _ _ _ _ h hR (lv_sub hl [2, 1, 0] rfl)
    · replace h := rz_f c1 h
      refine lv_aload_n hx hb dM_isSentence_33 rfl (lv_at hl 0 rfl) ?_
      obtain ⟨c7, h⟩ := rz_chk h
      refine rg_getP hx hb hown hK hR hk_M 23 (by decide) kf_M_48 rfl c7 dM_isSentence_34 ?_
      refine lv_iload_n hx hb dM_isSentence_37 rfl (lv_at hl 1 rfl) ?_
      refine lv_iconst (v := (-1)) hx hb dM_isSentence_38 (by decide) ?_
      obtain ⟨a8, e9, h⟩ := rz_d h
      rw [e9]
      obtain ⟨c10, h⟩ := rz_chk h
      obtain ⟨c11, h⟩ := rz_chk h
      obtain ⟨M12, q13, h⟩ := rz_m h
      refine rg_iast hx hb hK hR c10 c11 dM_isSentence_39 (fun H locs hR => ?_)
      rw [← q13] at hR
      have c14 : mK M12 a0 = 5 := by rw [q13]; exact c7
      have c15 : mK M12 a8 = 21 := by rw [q13]; exact c10
      refine lv_iinc (k := 1) (v := x1 + 1) (lv' := [(1, .int (x1 + 1)), (0, .ref a0)]) hx hb dM_isSentence_40 hl rfl (by rw [show Int32.ofInt 1 = 1 from by decide]) (by decide) rfl (fun ls hl => ?_)
      refine lv_goto (tgt := 27) hx hb dM_isSentence_43 (by decide) ?_
      exact ih a0 (x1 + 1) _ _ _ _ _ _ h hR (lv_sub hl [1, 0] rfl)
def fM_isSentence_0 (n d : Nat) (C : Cx) (a0 : Nat) (M : Mem) : Rz := if mK M a0 = 5 then (rzM (setI M a0 18 0) fun M2 => (rzM (setI M2 a0 19 0) fun M5 => (rzM (setI M5 a0 24 0) fun M8 => (rzM (setI M8 a0 12 0) fun M11 => (rzM (setI M11 a0 13 0) fun M14 => (fM_isSentence_27 n d C n a0 0 M14)))))) else none
set_option maxRecDepth 100000 in
set_option maxHeartbeats 4000000 in
theorem tM_isSentence_0 {n : Nat} (F : FX p s m meth c G R M0 d "HeadCountModel" bM_isSentence 4 (some .boolean)) (hC : CBs l G d C) : ∀ (a0 : Nat) (M : Mem) (H : Heap) (locs : List Loc) (cells slots : Nat) (ls : Array Slot), fM_isSentence_0 n d C a0 M = some (r, M') → RL G M0 M H locs cells slots → lv_has ls 4 [(0, .ref a0)] → W p l e R s m args below meth c H locs cells slots (CQ G below s M0 r M') (F0 m 0 ls []) := by
  obtain ⟨hx, hb, hml, hown, hrt, hlk, hex, hK, hRm⟩ := id F
  intro a0 M H locs cells slots ls h hR hl
  unfold fM_isSentence_0 at h
  refine lv_aload_n hx hb dM_isSentence_0 rfl (lv_at hl 0 rfl) ?_
  refine lv_iconst (v := 0) hx hb dM_isSentence_1 (by decide) ?_
  obtain ⟨c1, h⟩ := rz_chk h
  obtain ⟨M2, q3, h⟩ := rz_m h
  refine rg_putI hx hb hown hK hR hk_M 18 (by decide) kf_M_166 rfl rfl (ty := .int) (by decide +kernel) (Or.inl rfl) rfl c1 dM_isSentence_2 (fun H locs hR => ?_)
  rw [← q3] at hR
  have c4 : mK M2 a0 = 5 := by rw [q3]; exact c1
  refine lv_aload_n hx hb dM_isSentence_5 rfl (lv_at hl 0 rfl) ?_
  refine lv_iconst (v := 0) hx hb dM_isSentence_6 (by decide) ?_
  obtain ⟨M5, q6, h⟩ := rz_m h
  refine rg_putI hx hb hown hK hR hk_M 19 (by decide) kf_M_72 rfl rfl (ty := .int) (by decide +kernel) (Or.inl rfl) rfl c4 dM_isSentence_7 (fun H locs hR => ?_)
  rw [← q6] at hR
  have c7 : mK M5 a0 = 5 := by rw [q6]; exact c4
  refine lv_aload_n hx hb dM_isSentence_10 rfl (lv_at hl 0 rfl) ?_
  refine lv_iconst (v := 0) hx hb dM_isSentence_11 (by decide) ?_
  obtain ⟨M8, q9, h⟩ := rz_m h
  refine rg_putI hx hb hown hK hR hk_M 24 (by decide) kf_M_75 rfl rfl (ty := .int) (by decide +kernel) (Or.inl rfl) rfl c7 dM_isSentence_12 (fun H locs hR => ?_)
  rw [← q9] at hR
  have c10 : mK M8 a0 = 5 := by rw [q9]; exact c7
  refine lv_aload_n hx hb dM_isSentence_15 rfl (lv_at hl 0 rfl) ?_
  refine lv_iconst (v := 0) hx hb dM_isSentence_16 (by decide) ?_
  obtain ⟨M11, q12, h⟩ := rz_m h
  refine rg_putI hx hb hown hK hR hk_M 12 (by decide) kf_M_69 rfl rfl (ty := .int) (by decide +kernel) (Or.inl rfl) rfl c10 dM_isSentence_17 (fun H locs hR => ?_)
  rw [← q12] at hR
  have c13 : mK M11 a0 = 5 := by rw [q12]; exact c10
  refine lv_aload_n hx hb dM_isSentence_20 rfl (lv_at hl 0 rfl) ?_
  refine lv_iconst (v := 0) hx hb dM_isSentence_21 (by decide) ?_
  obtain ⟨M14, q15, h⟩ := rz_m h
  refine rg_putI hx hb hown hK hR hk_M 13 (by decide) kf_M_98 rfl rfl (ty := .int) (by decide +kernel) (Or.inl rfl) rfl c13 dM_isSentence_22 (fun H locs hR => ?_)
  rw [← q15] at hR
  have c16 : mK M14 a0 = 5 := by rw [q15]; exact c13
  refine lv_iconst (v := 0) hx hb dM_isSentence_25 (by decide) ?_
  refine lv_istore_n (lv' := [(1, .int 0), (0, .ref a0)]) hx hb dM_isSentence_26 rfl hl (by decide) rfl (fun ls hl => ?_)
  exact tM_isSentence_27 F hC n a0 0 _ _ _ _ _ _ h hR (lv_sub hl [1, 0] rfl)
set_option maxRecDepth 100000 in
set_option maxHeartbeats 4000000 in
theorem sM_isSentence {l : Launch} {G : Gx} {n d : Nat} {C : Cx} (hC : CBs l G d C) (a0 : Nat) {M M' : Mem} {r : Option Value ⊕ Nat} (h : fM_isSentence_0 n d C a0 M = some (r, M')) : CB l G (d + 1) yM_isSentence [.ref a0] M r M' := by
  intro p e R s m below meth c hx hn hm hc hlk hK hR hcap hS hU hfr hlo hrc hrs
  obtain ⟨hb, hml, hrt, hex, hown⟩ := fx_of hn hm hc (hK.w mfM_isSentence.2.2.1 rfl #[])
  have F : FX p s m meth c G R M d "HeadCountModel" bM_isSentence 4 (some .boolean) := ⟨hx, hb, hml, hown, hrt, hlk, hex, hK, hfr, hlo, by rw [← hcap]; exact hrc, hrs⟩
  rw [hml]
  have hl := lv_entry ([.ref a0]) (n := 4) (by simp [lg_sl, cat_rf, Value.category])
  rw [lg_entry_eq]
  generalize (lg_sl ([.ref a0]) ++ List.replicate (4 - (lg_sl ([.ref a0])).length) Slot.unset).toArray = ls at hl ⊢
  have hl : lv_has ls 4 [(0, .ref a0)] := by simpa [lv_args, cat_rf, Value.category] using hl
  exact tM_isSentence_0 F hC a0 _ _ _ _ _ _ h (RL.start hR hcap hS hU) (lv_sub hl [0] rfl)
def fM_next_0 (n d : Nat) (C : Cx) (a0 : Nat) (x1 : Int32) (M : Mem) : Rz := if mK M a0 = 5 then (if (mI M a0 18) = 0 then (rzC (C 73 [.ref a0, .int x1] M) fun v3 M4 => (rzI v3 fun x7 => (some (.inl (some (.int x7)), M4)))) else (if (mI M a0 18) = 1 then (rzC (C 83 [.ref a0, .int x1] M) fun v9 M10 => (rzI v9 fun x13 => (some (.inl (some (.int x13)), M10)))) else (if (mI M a0 18) = 2 then (rzC (C 88 [.ref a0, .int x1] M) fun v15 M16 => (rzI v15 fun x19 => (some (.inl (some (.int x19)), M16)))) else (if (mI M a0 18) = 3 then (rzC (C 76 [.ref a0, .int x1] M) fun v21 M22 => (rzI v21 fun x25 => (some (.inl (some (.int x25)), M22)))) else (if (mI M a0 18) = 4 then (rzC (C 77 [.ref a0, .int x1] M) fun v27 M28 => (rzI v27 fun x31 => (some (.inl (some (.int x31)), M28)))) else (if (mI M a0 18) = 5 then (rzC (C 89 [.ref a0, .int x1] M) fun v33 M34 => (rzI v33 fun x37 => (some (.inl (some (.int x37)), M34)))) else (if (mI M a0 18) = 6 then (rzC (C 79 [.ref a0, .int x1] M) fun v39 M40 => (rzI v39 fun x43 => (some (.inl (some (.int x43)), M40)))) else (if (mI M a0 18) = 7 then (rzC (C 90 [.ref a0, .int x1] M) fun v45 M46 => (rzI v45 fun x49 => (some (.inl (some (.int x49)), M46)))) else (if (mI M a0 18) = 8 then (rzC (C 91 [.ref a0, .int x1] M) fun v51 M52 => (rzI v51 fun x55 => (some (.inl (some (.int x55)), M52)))) else (if (mI M a0 18) = 9 then (rzC (C 93 [.ref a0, .int x1] M) fun v57 M58 => (rzI v57 fun x61 => (some (.inl (some (.int x61)), M58)))) else (some (.inl (some (.int 10)), M)))))))))))) else none
set_option maxRecDepth 100000 in
set_option maxHeartbeats 4000000 in
theorem tM_next_0 {n : Nat} (F : FX p s m meth c G R M0 d "HeadCountModel" bM_next 2 (some .int)) (hC : CBs l G d C) : ∀ (a0 : Nat) (x1 : Int32) (M : Mem) (H : Heap) (locs : List Loc) (cells slots : Nat) (ls : Array Slot), fM_next_0 n d C a0 x1 M = some (r, M') → RL G M0 M H locs cells slots → lv_has ls 2 [(0, .ref a0), (1, .int x1)] → W p l e R s m args below meth c H locs cells slots (CQ G below s M0 r M') (F0 m 0 ls []) := by
  obtain ⟨hx, hb, hml, hown, hrt, hlk, hex, hK, hRm⟩ := id F
  intro a0 x1 M H locs cells slots ls h hR hl
  unfold fM_next_0 at h
  refine lv_aload_n hx hb dM_next_0 rfl (lv_at hl 0 rfl) ?_
  obtain ⟨c1, h⟩ := rz_chk h
  refine rg_getI hx hb hown hK hR hk_M 18 (by decide) kf_M_166 rfl c1 dM_next_1 ?_
  by_cases c2 : (mI M a0 18) = 0
  · replace h := rz_t c2 h
    refine lv_tableIn (off := 56) (tgt := 60) hx hb dM_next_4 (by rw [c2]; decide) (by rw [c2]; decide) (by rw [c2]; decide) (by decide) ?_
    refine lv_aload_n hx hb dM_next_60 rfl (lv_at hl 0 rfl) ?_
    refine lv_iload_n hx hb dM_next_61 rfl (lv_at hl 1 rfl) ?_
    obtain ⟨q6, M4, h5, h⟩ := rz_c h
    refine rc_V (rest := []) (As := [.int x1]) hx hb (hl.1.trans hml.symm) hown hK hR hRm mfM_one kl_M_169 hk_M rfl rfl c1 (by simp [cat_rf, Value.category]) (hC 73 _ _ _ _ h5) dM_next_62 (fun v1 H locs cells slots ev hR => ?_) (fun x1 q1 ce1 H locs cells slots ex hR g1 g2 g3 => ?_)
    · rcases h with ⟨v3, ev2, h⟩ | ⟨e2, ee2, -⟩
      · cases ev.symm.trans ev2
        obtain ⟨x7, rfl, h⟩ := rz_i h
        dsimp only [Option.toList, List.cons_append, List.nil_append]
        cases h
        exact rt_i hx hb hlk hrt (Or.inl rfl) rfl hR dM_next_65
      · cases ev.symm.trans ee2
    · rcases h with ⟨v2, ev2, -⟩ | ⟨e2, ee2, h⟩
      · cases ex.symm.trans ev2
      · cases ex.symm.trans ee2
        cases h
        exact rt_x hlk hex hR g1 g2 g3
  · replace h := rz_f c2 h
    by_cases c8 : (mI M a0 18) = 1
    · replace h := rz_t c8 h
      refine lv_tableIn (off := 62) (tgt := 66) hx hb dM_next_4 (by rw [c8]; decide) (by rw [c8]; decide) (by rw [c8]; decide) (by decide) ?_
      refine lv_aload_n hx hb dM_next_66 rfl (lv_at hl 0 rfl) ?_
      refine lv_iload_n hx hb dM_next_67 rfl (lv_at hl 1 rfl) ?_
      obtain ⟨q12, M10, h11, h⟩ := rz_c h
      refine rc_V (rest := []) (As := [.int x1]) hx hb (hl.1.trans hml.symm) hown hK hR hRm mfM_afterOne kl_M_160 hk_M rfl rfl c1 (by simp [cat_rf, Value.category]) (hC 83 _ _ _ _ h11) dM_next_68 (fun v1 H locs cells slots ev hR => ?_) (fun x1 q1 ce1 H locs cells slots ex hR g1 g2 g3 => ?_)
      · rcases h with ⟨v9, ev2, h⟩ | ⟨e2, ee2, -⟩
        · cases ev.symm.trans ev2
          obtain ⟨x13, rfl, h⟩ := rz_i h
          dsimp only [Option.toList, List.cons_append, List.nil_append]
          cases h
          exact rt_i hx hb hlk hrt (Or.inl rfl) rfl hR dM_next_71
        · cases ev.symm.trans ee2
      · rcases h with ⟨v2, ev2, -⟩ | ⟨e2, ee2, h⟩
        · cases ex.symm.trans ev2
        · cases ex.symm.trans ee2
          cases h
          exact rt_x hlk hex hR g1 g2 g3
    · replace h := rz_f c8 h
      by_cases c14 : (mI M a0 18) = 2
      · replace h := rz_t c14 h
        refine lv_tableIn (off := 68) (tgt := 72) hx hb dM_next_4 (by rw [c14]; decide) (by rw [c14]; decide) (by rw [c14]; decide) (by decide) ?_
        refine lv_aload_n hx hb dM_next_72 rfl (lv_at hl 0 rfl) ?_
        refine lv_iload_n hx hb dM_next_73 rfl (lv_at hl 1 rfl) ?_
        obtain ⟨q18, M16, h17, h⟩ := rz_c h
        refine rc_V (rest := []) (As := [.int x1]) hx hb (hl.1.trans hml.symm) hown hK hR hRm mfM_bound kl_M_172 hk_M rfl rfl c1 (by simp [cat_rf, Value.category]) (hC 88 _ _ _ _ h17) dM_next_74 (fun v1 H locs cells slots ev hR => ?_) (fun x1 q1 ce1 H locs cells slots ex hR g1 g2 g3 => ?_)
        · rcases h with ⟨v15, ev2, h⟩ | ⟨e2, ee2, -⟩
          · cases ev.symm.trans ev2
            obtain ⟨x19, rfl, h⟩ := rz_i h
            dsimp only [Option.toList, List.cons_append, List.nil_append]
            cases h
            exact rt_i hx hb hlk hrt (Or.inl rfl) rfl hR dM_next_77
          · cases ev.symm.trans ee2
        · rcases h with ⟨v2, ev2, -⟩ | ⟨e2, ee2, h⟩
          · cases ex.symm.trans ev2
          · cases ex.symm.trans ee2
            cases h
            exact rt_x hlk hex hR g1 g2 g3
      · replace h := rz_f c14 h
        by_cases c20 : (mI M a0 18) = 3
        · replace h := rz_t c20 h
          refine lv_tableIn (off := 74) (tgt := 78) hx hb dM_next_4 (by rw [c20]; decide) (by rw [c20]; decide) (by rw [c20]; decide) (by decide) ?_
          refine lv_aload_n hx hb dM_next_78 rfl (lv_at hl 0 rfl) ?_
          refine lv_iload_n hx hb dM_next_79 rfl (lv_at hl 1 rfl) ?_
          obtain ⟨q24, M22, h23, h⟩ := rz_c h
          refine rc_V (rest := []) (As := [.int x1]) hx hb (hl.1.trans hml.symm) hown hK hR hRm mfM_sum kl_M_104 hk_M rfl rfl c1 (by simp [cat_rf, Value.category]) (hC 76 _ _ _ _ h23) dM_next_80 (fun v1 H locs cells slots ev hR => ?_) (fun x1 q1 ce1 H locs cells slots ex hR g1 g2 g3 => ?_)
          · rcases h with ⟨v21, ev2, h⟩ | ⟨e2, ee2, -⟩
            · cases ev.symm.trans ev2
              obtain ⟨x25, rfl, h⟩ := rz_i h
              dsimp only [Option.toList, List.cons_append, List.nil_append]
              cases h
              exact rt_i hx hb hlk hrt (Or.inl rfl) rfl hR dM_next_83
            · cases ev.symm.trans ee2
          · rcases h with ⟨v2, ev2, -⟩ | ⟨e2, ee2, h⟩
            · cases ex.symm.trans ev2
            · cases ex.symm.trans ee2
              cases h
              exact rt_x hlk hex hR g1 g2 g3
        · replace h := rz_f c20 h
          by_cases c26 : (mI M a0 18) = 4
          · replace h := rz_t c26 h
            refine lv_tableIn (off := 80) (tgt := 84) hx hb dM_next_4 (by rw [c26]; decide) (by rw [c26]; decide) (by rw [c26]; decide) (by decide) ?_
            refine lv_aload_n hx hb dM_next_84 rfl (lv_at hl 0 rfl) ?_
            refine lv_iload_n hx hb dM_next_85 rfl (lv_at hl 1 rfl) ?_
            obtain ⟨q30, M28, h29, h⟩ := rz_c h
            refine rc_V (rest := []) (As := [.int x1]) hx hb (hl.1.trans hml.symm) hown hK hR hRm mfM_part kl_M_129 hk_M rfl rfl c1 (by simp [cat_rf, Value.category]) (hC 77 _ _ _ _ h29) dM_next_86 (fun v1 H locs cells slots ev hR => ?_) (fun x1 q1 ce1 H locs cells slots ex hR g1 g2 g3 => ?_)
            · rcases h with ⟨v27, ev2, h⟩ | ⟨e2, ee2, -⟩
              · cases ev.symm.trans ev2
                obtain ⟨x31, rfl, h⟩ := rz_i h
                dsimp only [Option.toList, List.cons_append, List.nil_append]
                cases h
                exact rt_i hx hb hlk hrt (Or.inl rfl) rfl hR dM_next_89
              · cases ev.symm.trans ee2
            · rcases h with ⟨v2, ev2, -⟩ | ⟨e2, ee2, h⟩
              · cases ex.symm.trans ev2
              · cases ex.symm.trans ee2
                cases h
                exact rt_x hlk hex hR g1 g2 g3
          · replace h := rz_f c26 h
            by_cases c32 : (mI M a0 18) = 5
            · replace h := rz_t c32 h
              refine lv_tableIn (off := 86) (tgt := 90) hx hb dM_next_4 (by rw [c32]; decide) (by rw [c32]; decide) (by rw [c32]; decide) (by decide) ?_
              refine lv_aload_n hx hb dM_next_90 rfl (lv_at hl 0 rfl) ?_
              refine lv_iload_n hx hb dM_next_91 rfl (lv_at hl 1 rfl) ?_
              obtain ⟨q36, M34, h35, h⟩ := rz_c h
              refine rc_V (rest := []) (As := [.int x1]) hx hb (hl.1.trans hml.symm) hown hK hR hRm mfM_afterNumber kl_M_175 hk_M rfl rfl c1 (by simp [cat_rf, Value.category]) (hC 89 _ _ _ _ h35) dM_next_92 (fun v1 H locs cells slots ev hR => ?_) (fun x1 q1 ce1 H locs cells slots ex hR g1 g2 g3 => ?_)
              · rcases h with ⟨v33, ev2, h⟩ | ⟨e2, ee2, -⟩
                · cases ev.symm.trans ev2
                  obtain ⟨x37, rfl, h⟩ := rz_i h
                  dsimp only [Option.toList, List.cons_append, List.nil_append]
                  cases h
                  exact rt_i hx hb hlk hrt (Or.inl rfl) rfl hR dM_next_95
                · cases ev.symm.trans ee2
              · rcases h with ⟨v2, ev2, -⟩ | ⟨e2, ee2, h⟩
                · cases ex.symm.trans ev2
                · cases ex.symm.trans ee2
                  cases h
                  exact rt_x hlk hex hR g1 g2 g3
            · replace h := rz_f c32 h
              by_cases c38 : (mI M a0 18) = 6
              · replace h := rz_t c38 h
                refine lv_tableIn (off := 92) (tgt := 96) hx hb dM_next_4 (by rw [c38]; decide) (by rw [c38]; decide) (by rw [c38]; decide) (by decide) ?_
                refine lv_aload_n hx hb dM_next_96 rfl (lv_at hl 0 rfl) ?_
                refine lv_iload_n hx hb dM_next_97 rfl (lv_at hl 1 rfl) ?_
                obtain ⟨q42, M40, h41, h⟩ := rz_c h
                refine rc_V (rest := []) (As := [.int x1]) hx hb (hl.1.trans hml.symm) hown hK hR hRm mfM_thing kl_M_145 hk_M rfl rfl c1 (by simp [cat_rf, Value.category]) (hC 79 _ _ _ _ h41) dM_next_98 (fun v1 H locs cells slots ev hR => ?_) (fun x1 q1 ce1 H locs cells slots ex hR g1 g2 g3 => ?_)
                · rcases h with ⟨v39, ev2, h⟩ | ⟨e2, ee2, -⟩
                  · cases ev.symm.trans ev2
                    obtain ⟨x43, rfl, h⟩ := rz_i h
                    dsimp only [Option.toList, List.cons_append, List.nil_append]
                    cases h
                    exact rt_i hx hb hlk hrt (Or.inl rfl) rfl hR dM_next_101
                  · cases ev.symm.trans ee2
                · rcases h with ⟨v2, ev2, -⟩ | ⟨e2, ee2, h⟩
                  · cases ex.symm.trans ev2
                  · cases ex.symm.trans ee2
                    cases h
                    exact rt_x hlk hex hR g1 g2 g3
              · replace h := rz_f c38 h
                by_cases c44 : (mI M a0 18) = 7
                · replace h := rz_t c44 h
                  refine lv_tableIn (off := 98) (tgt := 102) hx hb dM_next_4 (by rw [c44]; decide) (by rw [c44]; decide) (by rw [c44]; decide) (by decide) ?_
                  refine lv_aload_n hx hb dM_next_102 rfl (lv_at hl 0 rfl) ?_
                  refine lv_iload_n hx hb dM_next_103 rfl (lv_at hl 1 rfl) ?_
                  obtain ⟨q48, M46, h47, h⟩ := rz_c h
                  refine rc_V (rest := []) (As := [.int x1]) hx hb (hl.1.trans hml.symm) hown hK hR hRm mfM_afterPart kl_M_157 hk_M rfl rfl c1 (by simp [cat_rf, Value.category]) (hC 90 _ _ _ _ h47) dM_next_104 (fun v1 H locs cells slots ev hR => ?_) (fun x1 q1 ce1 H locs cells slots ex hR g1 g2 g3 => ?_)
                  · rcases h with ⟨v45, ev2, h⟩ | ⟨e2, ee2, -⟩
                    · cases ev.symm.trans ev2
                      obtain ⟨x49, rfl, h⟩ := rz_i h
                      dsimp only [Option.toList, List.cons_append, List.nil_append]
                      cases h
                      exact rt_i hx hb hlk hrt (Or.inl rfl) rfl hR dM_next_107
                    · cases ev.symm.trans ee2
                  · rcases h with ⟨v2, ev2, -⟩ | ⟨e2, ee2, h⟩
                    · cases ex.symm.trans ev2
                    · cases ex.symm.trans ee2
                      cases h
                      exact rt_x hlk hex hR g1 g2 g3
                · replace h := rz_f c44 h
                  by_cases c50 : (mI M a0 18) = 8
                  · replace h := rz_t c50 h
                    refine lv_tableIn (off := 104) (tgt := 108) hx hb dM_next_4 (by rw [c50]; decide) (by rw [c50]; decide) (by rw [c50]; decide) (by decide) ?_
                    refine lv_aload_n hx hb dM_next_108 rfl (lv_at hl 0 rfl) ?_
                    refine lv_iload_n hx hb dM_next_109 rfl (lv_at hl 1 rfl) ?_
                    obtain ⟨q54, M52, h53, h⟩ := rz_c h
                    refine rc_V (rest := []) (As := [.int x1]) hx hb (hl.1.trans hml.symm) hown hK hR hRm mfM_single kl_M_178 hk_M rfl rfl c1 (by simp [cat_rf, Value.category]) (hC 91 _ _ _ _ h53) dM_next_110 (fun v1 H locs cells slots ev hR => ?_) (fun x1 q1 ce1 H locs cells slots ex hR g1 g2 g3 => ?_)
                    · rcases h with ⟨v51, ev2, h⟩ | ⟨e2, ee2, -⟩
                      · cases ev.symm.trans ev2
                        obtain ⟨x55, rfl, h⟩ := rz_i h
                        dsimp only [Option.toList, List.cons_append, List.nil_append]
                        cases h
                        exact rt_i hx hb hlk hrt (Or.inl rfl) rfl hR dM_next_113
                      · cases ev.symm.trans ee2
                    · rcases h with ⟨v2, ev2, -⟩ | ⟨e2, ee2, h⟩
                      · cases ex.symm.trans ev2
                      · cases ex.symm.trans ee2
                        cases h
                        exact rt_x hlk hex hR g1 g2 g3
                  · replace h := rz_f c50 h
                    by_cases c56 : (mI M a0 18) = 9
                    · replace h := rz_t c56 h
                      refine lv_tableIn (off := 110) (tgt := 114) hx hb dM_next_4 (by rw [c56]; decide) (by rw [c56]; decide) (by rw [c56]; decide) (by decide) ?_
                      refine lv_aload_n hx hb dM_next_114 rfl (lv_at hl 0 rfl) ?_
                      refine lv_iload_n hx hb dM_next_115 rfl (lv_at hl 1 rfl) ?_
                      obtain ⟨q60, M58, h59, h⟩ := rz_c h
                      refine rc_V (rest := []) (As := [.int x1]) hx hb (hl.1.trans hml.symm) hown hK hR hRm mfM_afterSingle kl_M_181 hk_M rfl rfl c1 (by simp [cat_rf, Value.category]) (hC 93 _ _ _ _ h59) dM_next_116 (fun v1 H locs cells slots ev hR => ?_) (fun x1 q1 ce1 H locs cells slots ex hR g1 g2 g3 => ?_)
                      · rcases h with ⟨v57, ev2, h⟩ | ⟨e2, ee2, -⟩
                        · cases ev.symm.trans ev2
                          obtain ⟨x61, rfl, h⟩ := rz_i h
                          dsimp only [Option.toList, List.cons_append, List.nil_append]
                          cases h
                          exact rt_i hx hb hlk hrt (Or.inl rfl) rfl hR dM_next_119
                        · cases ev.symm.trans ee2
                      · rcases h with ⟨v2, ev2, -⟩ | ⟨e2, ee2, h⟩
                        · cases ex.symm.trans ev2
                        · cases ex.symm.trans ee2
                          cases h
                          exact rt_x hlk hex hR g1 g2 g3
                    · replace h := rz_f c56 h
                      have zc2 := lv_neT c2 (k := 0) (a := 0) (by decide)
                      have zc8 := lv_neT c8 (k := 1) (a := 1) (by decide)
                      have zc14 := lv_neT c14 (k := 2) (a := 2) (by decide)
                      have zc20 := lv_neT c20 (k := 3) (a := 3) (by decide)
                      have zc26 := lv_neT c26 (k := 4) (a := 4) (by decide)
                      have zc32 := lv_neT c32 (k := 5) (a := 5) (by decide)
                      have zc38 := lv_neT c38 (k := 6) (a := 6) (by decide)
                      have zc44 := lv_neT c44 (k := 7) (a := 7) (by decide)
                      have zc50 := lv_neT c50 (k := 8) (a := 8) (by decide)
                      have zc56 := lv_neT c56 (k := 9) (a := 9) (by decide)
                      refine lv_tableOut (tgt := 120) hx hb dM_next_4 (by omega) (by decide) ?_
                      refine lv_bipush (v := 10) hx hb dM_next_120 (by decide) ?_
                      cases h
                      exact rt_i hx hb hlk hrt (Or.inl rfl) rfl hR dM_next_122
set_option maxRecDepth 100000 in
set_option maxHeartbeats 4000000 in
theorem sM_next {l : Launch} {G : Gx} {n d : Nat} {C : Cx} (hC : CBs l G d C) (a0 : Nat) (x1 : Int32) {M M' : Mem} {r : Option Value ⊕ Nat} (h : fM_next_0 n d C a0 x1 M = some (r, M')) : CB l G (d + 1) yM_next [.ref a0, .int x1] M r M' := by
  intro p e R s m below meth c hx hn hm hc hlk hK hR hcap hS hU hfr hlo hrc hrs
  obtain ⟨hb, hml, hrt, hex, hown⟩ := fx_of hn hm hc (hK.w mfM_next.2.2.1 rfl #[])
  have F : FX p s m meth c G R M d "HeadCountModel" bM_next 2 (some .int) := ⟨hx, hb, hml, hown, hrt, hlk, hex, hK, hfr, hlo, by rw [← hcap]; exact hrc, hrs⟩
  rw [hml]
  have hl := lv_entry ([.ref a0, .int x1]) (n := 2) (by simp [lg_sl, cat_rf, Value.category])
  rw [lg_entry_eq]
  generalize (lg_sl ([.ref a0, .int x1]) ++ List.replicate (2 - (lg_sl ([.ref a0, .int x1])).length) Slot.unset).toArray = ls at hl ⊢
  have hl : lv_has ls 2 [(0, .ref a0), (1, .int x1)] := by simpa [lv_args, cat_rf, Value.category] using hl
  exact tM_next_0 F hC a0 x1 _ _ _ _ _ _ h (RL.start hR hcap hS hU) (lv_sub hl [0, 1] rfl)
def fM_single_27 (n d : Nat) (C : Cx) (xs0 : Int32) (M : Mem) : Rz := some (.inl (some (.int xs0)), M)
set_option maxRecDepth 100000 in
set_option maxHeartbeats 4000000 in
theorem tM_single_27 {n : Nat} (F : FX p s m meth c G R M0 d "HeadCountModel" bM_single 3 (some .int)) (hC : CBs l G d C) : ∀ (xs0 : Int32) (M : Mem) (H : Heap) (locs : List Loc) (cells slots : Nat) (ls : Array Slot), fM_single_27 n d C xs0 M = some (r, M') → RL G M0 M H locs cells slots → lv_has ls 3 [] → W p l e R s m args below meth c H locs cells slots (CQ G below s M0 r M') (F0 m 27 ls [.int xs0]) := by
  obtain ⟨hx, hb, hml, hown, hrt, hlk, hex, hK, hRm⟩ := id F
  intro xs0 M H locs cells slots ls h hR hl
  unfold fM_single_27 at h
  cases h
  exact rt_i hx hb hlk hrt (Or.inl rfl) rfl hR dM_single_27
def fM_single_50 (n d : Nat) (C : Cx) (xs0 : Int32) (M : Mem) : Rz := some (.inl (some (.int xs0)), M)
set_option maxRecDepth 100000 in
set_option maxHeartbeats 4000000 in
theorem tM_single_50 {n : Nat} (F : FX p s m meth c G R M0 d "HeadCountModel" bM_single 3 (some .int)) (hC : CBs l G d C) : ∀ (xs0 : Int32) (M : Mem) (H : Heap) (locs : List Loc) (cells slots : Nat) (ls : Array Slot), fM_single_50 n d C xs0 M = some (r, M') → RL G M0 M H locs cells slots → lv_has ls 3 [] → W p l e R s m args below meth c H locs cells slots (CQ G below s M0 r M') (F0 m 50 ls [.int xs0]) := by
  obtain ⟨hx, hb, hml, hown, hrt, hlk, hex, hK, hRm⟩ := id F
  intro xs0 M H locs cells slots ls h hR hl
  unfold fM_single_50 at h
  cases h
  exact rt_i hx hb hlk hrt (Or.inl rfl) rfl hR dM_single_50
def fM_single_116 (n d : Nat) (C : Cx) (a0 : Nat) (M : Mem) : Rz := if mK M a0 = 5 then (rzC (C 92 [.ref a0] M) fun v2 M3 => (rzI v2 fun x6 => (some (.inl (some (.int x6)), M3)))) else none
set_option maxRecDepth 100000 in
set_option maxHeartbeats 4000000 in
theorem tM_single_116 {n : Nat} (F : FX p s m meth c G R M0 d "HeadCountModel" bM_single 3 (some .int)) (hC : CBs l G d C) : ∀ (a0 : Nat) (M : Mem) (H : Heap) (locs : List Loc) (cells slots : Nat) (ls : Array Slot), fM_single_116 n d C a0 M = some (r, M') → RL G M0 M H locs cells slots → lv_has ls 3 [(0, .ref a0)] → W p l e R s m args below meth c H locs cells slots (CQ G below s M0 r M') (F0 m 116 ls []) := by
  obtain ⟨hx, hb, hml, hown, hrt, hlk, hex, hK, hRm⟩ := id F
  intro a0 M H locs cells slots ls h hR hl
  unfold fM_single_116 at h
  refine lv_aload_n hx hb dM_single_116 rfl (lv_at hl 0 rfl) ?_
  obtain ⟨c1, h⟩ := rz_chk h
  obtain ⟨q5, M3, h4, h⟩ := rz_c h
  refine rc_V (rest := []) (As := []) hx hb (hl.1.trans hml.symm) hown hK hR hRm mfM_wholeSingle kl_M_163 hk_M rfl rfl c1 (by simp [cat_rf, Value.category]) (hC 92 _ _ _ _ h4) dM_single_117 (fun v1 H locs cells slots ev hR => ?_) (fun x1 q1 ce1 H locs cells slots ex hR g1 g2 g3 => ?_)
  · rcases h with ⟨v2, ev2, h⟩ | ⟨e2, ee2, -⟩
    · cases ev.symm.trans ev2
      obtain ⟨x6, rfl, h⟩ := rz_i h
      dsimp only [Option.toList, List.cons_append, List.nil_append]
      cases h
      exact rt_i hx hb hlk hrt (Or.inl rfl) rfl hR dM_single_120
    · cases ev.symm.trans ee2
  · rcases h with ⟨v2, ev2, -⟩ | ⟨e2, ee2, h⟩
    · cases ex.symm.trans ev2
    · cases ex.symm.trans ee2
      cases h
      exact rt_x hlk hex hR g1 g2 g3
def fM_single_77 (n d : Nat) (C : Cx) (a0 : Nat) (xs0 : Int32) (as1 : Nat) (M : Mem) : Rz := if mK M as1 = 5 then (rzC (C 81 [.ref as1, .int xs0, .int 0] M) fun v2 M3 => (rzV v2 (fM_single_116 n d C a0 M3))) else none
set_option maxRecDepth 100000 in
set_option maxHeartbeats 4000000 in
theorem tM_single_77 {n : Nat} (F : FX p s m meth c G R M0 d "HeadCountModel" bM_single 3 (some .int)) (hC : CBs l G d C) : ∀ (a0 : Nat) (xs0 : Int32) (as1 : Nat) (M : Mem) (H : Heap) (locs : List Loc) (cells slots : Nat) (ls : Array Slot), fM_single_77 n d C a0 xs0 as1 M = some (r, M') → RL G M0 M H locs cells slots → lv_has ls 3 [(0, .ref a0)] → W p l e R s m args below meth c H locs cells slots (CQ G below s M0 r M') (F0 m 77 ls [.int xs0, .ref as1]) := by
  obtain ⟨hx, hb, hml, hown, hrt, hlk, hex, hK, hRm⟩ := id F
  intro a0 xs0 as1 M H locs cells slots ls h hR hl
  unfold fM_single_77 at h
  refine lv_iconst (v := 0) hx hb dM_single_77 (by decide) ?_
  obtain ⟨c1, h⟩ := rz_chk h
  obtain ⟨q5, M3, h4, h⟩ := rz_c h
  refine rc_V (rest := []) (As := [.int xs0, .int 0]) hx hb (hl.1.trans hml.symm) hown hK hR hRm mfM_emit kl_M_86 hk_M rfl rfl c1 (by simp [cat_rf, Value.category]) (hC 81 _ _ _ _ h4) dM_single_78 (fun v1 H locs cells slots ev hR => ?_) (fun x1 q1 ce1 H locs cells slots ex hR g1 g2 g3 => ?_)
  · rcases h with ⟨v2, ev2, h⟩ | ⟨e2, ee2, -⟩
    · cases ev.symm.trans ev2
      obtain ⟨rfl, h⟩ := rz_v h
      dsimp only [Option.toList, List.cons_append, List.nil_append]
      refine lv_goto (tgt := 116) hx hb dM_single_81 (by decide) ?_
      exact tM_single_116 F hC a0 _ _ _ _ _ _ h hR (lv_sub hl [0] rfl)
    · cases ev.symm.trans ee2
  · rcases h with ⟨v2, ev2, -⟩ | ⟨e2, ee2, h⟩
    · cases ex.symm.trans ev2
    · cases ex.symm.trans ee2
      cases h
      exact rt_x hlk hex hR g1 g2 g3
def fM_single_63 (n d : Nat) (C : Cx) (a0 : Nat) (x1 : Int32) (M : Mem) : Rz := if x1 = 48 then (fM_single_77 n d C a0 23 a0 M) else (fM_single_77 n d C a0 24 a0 M)
set_option maxRecDepth 100000 in
set_option maxHeartbeats 4000000 in
theorem tM_single_63 {n : Nat} (F : FX p s m meth c G R M0 d "HeadCountModel" bM_single 3 (some .int)) (hC : CBs l G d C) : ∀ (a0 : Nat) (x1 : Int32) (M : Mem) (H : Heap) (locs : List Loc) (cells slots : Nat) (ls : Array Slot), fM_single_63 n d C a0 x1 M = some (r, M') → RL G M0 M H locs cells slots → lv_has ls 3 [(0, .ref a0), (1, .int x1)] → W p l e R s m args below meth c H locs cells slots (CQ G below s M0 r M') (F0 m 63 ls []) := by
  obtain ⟨hx, hb, hml, hown, hrt, hlk, hex, hK, hRm⟩ := id F
  intro a0 x1 M H locs cells slots ls h hR hl
  unfold fM_single_63 at h
  refine lv_aload_n hx hb dM_single_63 rfl (lv_at hl 0 rfl) ?_
  refine lv_iload_n hx hb dM_single_64 rfl (lv_at hl 1 rfl) ?_
  refine lv_bipush (v := 48) hx hb dM_single_65 (by decide) ?_
  refine lv_icmp_ne (tgt := 75) hx hb dM_single_67 (by decide) (fun c1 => ?_) (fun c1 => ?_)
  · replace h := rz_f c1 h
    refine lv_bipush (v := 24) hx hb dM_single_75 (by decide) ?_
    exact tM_single_77 F hC a0 24 a0 _ _ _ _ _ _ h hR (lv_sub hl [0] rfl)
  · replace h := rz_t c1 h
    refine lv_bipush (v := 23) hx hb dM_single_70 (by decide) ?_
    refine lv_goto (tgt := 77) hx hb dM_single_72 (by decide) ?_
    exact tM_single_77 F hC a0 23 a0 _ _ _ _ _ _ h hR (lv_sub hl [0] rfl)
def fM_single_113 (n d : Nat) (C : Cx) (M : Mem) : Rz := some (.inl (some (.int 10)), M)
set_option maxRecDepth 100000 in
set_option maxHeartbeats 4000000 in
theorem tM_single_113 {n : Nat} (F : FX p s m meth c G R M0 d "HeadCountModel" bM_single 3 (some .int)) (hC : CBs l G d C) : ∀ (M : Mem) (H : Heap) (locs : List Loc) (cells slots : Nat) (ls : Array Slot), fM_single_113 n d C M = some (r, M') → RL G M0 M H locs cells slots → lv_has ls 3 [] → W p l e R s m args below meth c H locs cells slots (CQ G below s M0 r M') (F0 m 113 ls []) := by
  obtain ⟨hx, hb, hml, hown, hrt, hlk, hex, hK, hRm⟩ := id F
  intro M H locs cells slots ls h hR hl
  unfold fM_single_113 at h
  refine lv_bipush (v := 10) hx hb dM_single_113 (by decide) ?_
  cases h
  exact rt_i hx hb hlk hrt (Or.inl rfl) rfl hR dM_single_115
def fM_single_0 (n d : Nat) (C : Cx) (a0 : Nat) (x1 : Int32) (M : Mem) : Rz := rzC (C 80 [.int x1] M) fun v1 M2 => (rzI v1 fun x5 => (if x1 = 45 then (if mK M2 a0 = 5 then (rzC (C 74 [.ref a0, .int 9] M2) fun v30 M31 => (rzI v30 fun x34 => (if x34 = 0 then (fM_single_27 n d C 10 M31) else (fM_single_27 n d C 8 M31)))) else none) else (if x1 = 40 then (if mK M2 a0 = 5 then (rzC (C 74 [.ref a0, .int 10] M2) fun v23 M24 => (rzI v23 fun x27 => (if x27 = 0 then (fM_single_50 n d C 10 M24) else (fM_single_50 n d C 8 M24)))) else none) else (if x1 = 48 then (fM_single_63 n d C a0 x1 M2) else (if x1 = 49 then (fM_single_63 n d C a0 x1 M2) else (if x5 ≤ 2 then (fM_single_113 n d C M2) else (if mK M2 a0 = 5 then (rzD (mP M2 a0 23) fun a12 => (if mK M2 a12 = 21 then (if inA x5 (mL M2 a12) then (if (mI M2 a12 x5.toNatClampNeg) < 0 then (fM_single_113 n d C M2) else (if inA x5 (mL M2 a12) then (rzC (C 81 [.ref a0, .int 14, .int (mI M2 a12 x5.toNatClampNeg)] M2) fun v18 M19 => (rzV v18 (fM_single_116 n d C a0 M19))) else none)) else none) else none)) else none)))))))
set_option maxRecDepth 100000 in
set_option maxHeartbeats 4000000 in
theorem tM_single_0 {n : Nat} (F : FX p s m meth c G R M0 d "HeadCountModel" bM_single 3 (some .int)) (hC : CBs l G d C) : ∀ (a0 : Nat) (x1 : Int32) (M : Mem) (H : Heap) (locs : List Loc) (cells slots : Nat) (ls : Array Slot), fM_single_0 n d C a0 x1 M = some (r, M') → RL G M0 M H locs cells slots → lv_has ls 3 [(0, .ref a0), (1, .int x1)] → W p l e R s m args below meth c H locs cells slots (CQ G below s M0 r M') (F0 m 0 ls []) := by
  obtain ⟨hx, hb, hml, hown, hrt, hlk, hex, hK, hRm⟩ := id F
  intro a0 x1 M H locs cells slots ls h hR hl
  unfold fM_single_0 at h
  refine lv_iload_n hx hb dM_single_0 rfl (lv_at hl 1 rfl) ?_
  obtain ⟨q4, M2, h3, h⟩ := rz_c h
  refine rc_S (rest := []) (As := [.int x1]) hx hb (hl.1.trans hml.symm) hown hK hR hRm mfM_variableOf kl_M_108 rfl (by simp [cat_rf, Value.category]) (hC 80 _ _ _ _ h3) dM_single_1 (fun v1 H locs cells slots ev hR => ?_) (fun x1 q1 ce1 H locs cells slots ex hR g1 g2 g3 => ?_)
  · rcases h with ⟨v1, ev2, h⟩ | ⟨e2, ee2, -⟩
    · cases ev.symm.trans ev2
      obtain ⟨x5, rfl, h⟩ := rz_i h
      dsimp only [Option.toList, List.cons_append, List.nil_append]
      refine lv_istore_n (lv' := [(2, .int x5), (0, .ref a0), (1, .int x1)]) hx hb dM_single_4 rfl hl (by decide) rfl (fun ls hl => ?_)
      refine lv_iload_n hx hb dM_single_5 rfl (lv_at hl 2 rfl) ?_
      refine lv_bipush (v := 45) hx hb dM_single_6 (by decide) ?_
      refine lv_icmp_ne (tgt := 28) hx hb dM_single_8 (by decide) (fun c6 => ?_) (fun c6 => ?_)
      · replace h := rz_f c6 h
        refine lv_iload_n hx hb dM_single_28 rfl (lv_at hl 2 rfl) ?_
        refine lv_bipush (v := 40) hx hb dM_single_29 (by decide) ?_
        refine lv_icmp_ne (tgt := 51) hx hb dM_single_31 (by decide) (fun c7 => ?_) (fun c7 => ?_)
        · replace h := rz_f c7 h
          refine lv_iload_n hx hb dM_single_51 rfl (lv_at hl 2 rfl) ?_
          refine lv_bipush (v := 48) hx hb dM_single_52 (by decide) ?_
          refine lv_icmp_eq (tgt := 63) hx hb dM_single_54 (by decide) (fun c8 => ?_) (fun c8 => ?_)
          · replace h := rz_t c8 h
            exact tM_single_63 F hC a0 x1 _ _ _ _ _ _ h hR (lv_sub hl [1, 2] rfl)
          · replace h := rz_f c8 h
            refine lv_iload_n hx hb dM_single_57 rfl (lv_at hl 2 rfl) ?_
            refine lv_bipush (v := 49) hx hb dM_single_58 (by decide) ?_
            refine lv_icmp_ne (tgt := 84) hx hb dM_single_60 (by decide) (fun c9 => ?_) (fun c9 => ?_)
            · replace h := rz_f c9 h
              refine lv_iload_n hx hb dM_single_84 rfl (lv_at hl 0 rfl) ?_
              refine lv_iconst (v := 2) hx hb dM_single_85 (by decide) ?_
              refine lv_icmp_le (tgt := 113) hx hb dM_single_86 (by decide) (fun c10 => ?_) (fun c10 => ?_)
              · replace h := rz_t c10 h
                exact tM_single_113 F hC _ _ _ _ _ _ h hR (lv_sub hl [] rfl)
              · replace h := rz_f c10 h
                refine lv_aload_n hx hb dM_single_89 rfl (lv_at hl 1 rfl) ?_
                obtain ⟨c11, h⟩ := rz_chk h
                refine rg_getP hx hb hown hK hR hk_M 23 (by decide) kf_M_48 rfl c11 dM_single_90 ?_
                refine lv_iload_n hx hb dM_single_93 rfl (lv_at hl 0 rfl) ?_
                obtain ⟨a12, e13, h⟩ := rz_d h
                rw [e13]
                obtain ⟨c14, h⟩ := rz_chk h
                obtain ⟨c15, h⟩ := rz_chk h
                refine rg_iald hx hb hK hR c14 c15 dM_single_94 ?_
                refine lv_if_lt (tgt := 113) hx hb dM_single_95 (by decide) (fun c16 => ?_) (fun c16 => ?_)
                · replace h := rz_t c16 h
                  exact tM_single_113 F hC _ _ _ _ _ _ h hR (lv_sub hl [] rfl)
                · replace h := rz_f c16 h
                  refine lv_aload_n hx hb dM_single_98 rfl (lv_at hl 1 rfl) ?_
                  refine lv_bipush (v := 14) hx hb dM_single_99 (by decide) ?_
                  refine lv_aload_n hx hb dM_single_101 rfl (lv_at hl 1 rfl) ?_
                  refine rg_getP hx hb hown hK hR hk_M 23 (by decide) kf_M_48 rfl c11 dM_single_102 ?_
                  refine lv_iload_n hx hb dM_single_105 rfl (lv_at hl 0 rfl) ?_
                  rw [e13]
                  obtain ⟨c17, h⟩ := rz_chk h
                  refine rg_iald hx hb hK hR c14 c17 dM_single_106 ?_
                  obtain ⟨q21, M19, h20, h⟩ := rz_c h
                  refine rc_V (rest := []) (As := [.int 14, .int (mI M2 a12 x5.toNatClampNeg)]) hx hb (hl.1.trans hml.symm) hown hK hR hRm mfM_emit kl_M_86 hk_M rfl rfl c11 (by simp [cat_rf, Value.category]) (hC 81 _ _ _ _ h20) dM_single_107 (fun v1 H locs cells slots ev hR => ?_) (fun x1 q1 ce1 H locs cells slots ex hR g1 g2 g3 => ?_)
                  · rcases h with ⟨v18, ev2, h⟩ | ⟨e2, ee2, -⟩
                    · cases ev.symm.trans ev2
                      obtain ⟨rfl, h⟩ := rz_v h
                      dsimp only [Option.toList, List.cons_append, List.nil_append]
                      refine lv_goto (tgt := 116) hx hb dM_single_110 (by decide) ?_
                      exact tM_single_116 F hC a0 _ _ _ _ _ _ h hR (lv_sub hl [1] rfl)
                    · cases ev.symm.trans ee2
                  · rcases h with ⟨v2, ev2, -⟩ | ⟨e2, ee2, h⟩
                    · cases ex.symm.trans ev2
                    · cases ex.symm.trans ee2
                      cases h
                      exact rt_x hlk hex hR g1 g2 g3
            · replace h := rz_t c9 h
              exact tM_single_63 F hC a0 x1 _ _ _ _ _ _ h hR (lv_sub hl [1, 2] rfl)
        · replace h := rz_t c7 h
          refine lv_aload_n hx hb dM_single_34 rfl (lv_at hl 1 rfl) ?_
          refine lv_bipush (v := 10) hx hb dM_single_35 (by decide) ?_
          obtain ⟨c22, h⟩ := rz_chk h
          obtain ⟨q26, M24, h25, h⟩ := rz_c h
          refine rc_V (rest := []) (As := [.int 10]) hx hb (hl.1.trans hml.symm) hown hK hR hRm mfM_deeper kl_M_90 hk_M rfl rfl c22 (by simp [cat_rf, Value.category]) (hC 74 _ _ _ _ h25) dM_single_37 (fun v1 H locs cells slots ev hR => ?_) (fun x1 q1 ce1 H locs cells slots ex hR g1 g2 g3 => ?_)
          · rcases h with ⟨v23, ev2, h⟩ | ⟨e2, ee2, -⟩
            · cases ev.symm.trans ev2
              obtain ⟨x27, rfl, h⟩ := rz_i h
              dsimp only [Option.toList, List.cons_append, List.nil_append]
              refine lv_if_eq (tgt := 48) hx hb dM_single_40 (by decide) (fun c28 => ?_) (fun c28 => ?_)
              · replace h := rz_t c28 h
                refine lv_bipush (v := 10) hx hb dM_single_48 (by decide) ?_
                exact tM_single_50 F hC 10 _ _ _ _ _ _ h hR (lv_sub hl [] rfl)
              · replace h := rz_f c28 h
                refine lv_bipush (v := 8) hx hb dM_single_43 (by decide) ?_
                refine lv_goto (tgt := 50) hx hb dM_single_45 (by decide) ?_
                exact tM_single_50 F hC 8 _ _ _ _ _ _ h hR (lv_sub hl [] rfl)
            · cases ev.symm.trans ee2
          · rcases h with ⟨v2, ev2, -⟩ | ⟨e2, ee2, h⟩
            · cases ex.symm.trans ev2
            · cases ex.symm.trans ee2
              cases h
              exact rt_x hlk hex hR g1 g2 g3
      · replace h := rz_t c6 h
        refine lv_aload_n hx hb dM_single_11 rfl (lv_at hl 1 rfl) ?_
        refine lv_bipush (v := 9) hx hb dM_single_12 (by decide) ?_
        obtain ⟨c29, h⟩ := rz_chk h
        obtain ⟨q33, M31, h32, h⟩ := rz_c h
        refine rc_V (rest := []) (As := [.int 9]) hx hb (hl.1.trans hml.symm) hown hK hR hRm mfM_deeper kl_M_90 hk_M rfl rfl c29 (by simp [cat_rf, Value.category]) (hC 74 _ _ _ _ h32) dM_single_14 (fun v1 H locs cells slots ev hR => ?_) (fun x1 q1 ce1 H locs cells slots ex hR g1 g2 g3 => ?_)
        · rcases h with ⟨v30, ev2, h⟩ | ⟨e2, ee2, -⟩
          · cases ev.symm.trans ev2
            obtain ⟨x34, rfl, h⟩ := rz_i h
            dsimp only [Option.toList, List.cons_append, List.nil_append]
            refine lv_if_eq (tgt := 25) hx hb dM_single_17 (by decide) (fun c35 => ?_) (fun c35 => ?_)
            · replace h := rz_t c35 h
              refine lv_bipush (v := 10) hx hb dM_single_25 (by decide) ?_
              exact tM_single_27 F hC 10 _ _ _ _ _ _ h hR (lv_sub hl [] rfl)
            · replace h := rz_f c35 h
              refine lv_bipush (v := 8) hx hb dM_single_20 (by decide) ?_
              refine lv_goto (tgt := 27) hx hb dM_single_22 (by decide) ?_
              exact tM_single_27 F hC 8 _ _ _ _ _ _ h hR (lv_sub hl [] rfl)
          · cases ev.symm.trans ee2
        · rcases h with ⟨v2, ev2, -⟩ | ⟨e2, ee2, h⟩
          · cases ex.symm.trans ev2
          · cases ex.symm.trans ee2
            cases h
            exact rt_x hlk hex hR g1 g2 g3
    · cases ev.symm.trans ee2
  · rcases h with ⟨v2, ev2, -⟩ | ⟨e2, ee2, h⟩
    · cases ex.symm.trans ev2
    · cases ex.symm.trans ee2
      cases h
      exact rt_x hlk hex hR g1 g2 g3
set_option maxRecDepth 100000 in
set_option maxHeartbeats 4000000 in
theorem sM_single {l : Launch} {G : Gx} {n d : Nat} {C : Cx} (hC : CBs l G d C) (a0 : Nat) (x1 : Int32) {M M' : Mem} {r : Option Value ⊕ Nat} (h : fM_single_0 n d C a0 x1 M = some (r, M')) : CB l G (d + 1) yM_single [.ref a0, .int x1] M r M' := by
  intro p e R s m below meth c hx hn hm hc hlk hK hR hcap hS hU hfr hlo hrc hrs
  obtain ⟨hb, hml, hrt, hex, hown⟩ := fx_of hn hm hc (hK.w mfM_single.2.2.1 rfl #[])
  have F : FX p s m meth c G R M d "HeadCountModel" bM_single 3 (some .int) := ⟨hx, hb, hml, hown, hrt, hlk, hex, hK, hfr, hlo, by rw [← hcap]; exact hrc, hrs⟩
  rw [hml]
  have hl := lv_entry ([.ref a0, .int x1]) (n := 3) (by simp [lg_sl, cat_rf, Value.category])
  rw [lg_entry_eq]
  generalize (lg_sl ([.ref a0, .int x1]) ++ List.replicate (3 - (lg_sl ([.ref a0, .int x1])).length) Slot.unset).toArray = ls at hl ⊢
  have hl : lv_has ls 3 [(0, .ref a0), (1, .int x1)] := by simpa [lv_args, cat_rf, Value.category] using hl
  exact tM_single_0 F hC a0 x1 _ _ _ _ _ _ h (RL.start hR hcap hS hU) (lv_sub hl [0, 1] rfl)
def fM_wholeSingle_0 (n d : Nat) (C : Cx) : Nat → Nat → Mem → Rz
  | 0, _, _ => none
  | w + 1, a0, M => if mK M a0 = 5 then (rzC (C 85 [.ref a0] M) fun v2 M3 => (rzI v2 fun x6 => (if x6 = 9 then (if mK M3 a0 = 5 then (rzC (C 81 [.ref a0, .int 9, .int 0] M3) fun v31 M32 => (rzV v31 (if mK M32 a0 = 5 then (rzC (C 86 [.ref a0] M32) fun v36 M37 => (rzV v36 (fM_wholeSingle_0 n d C w a0 M37))) else none))) else none) else (if mK M3 a0 = 5 then (rzC (C 85 [.ref a0] M3) fun v9 M10 => (rzI v9 fun x13 => (if x13 = 11 then (if mK M10 a0 = 5 then (rzC (C 81 [.ref a0, .int 11, .int 0] M10) fun v16 M17 => (rzV v16 (if mK M17 a0 = 5 then (rzC (C 86 [.ref a0] M17) fun v21 M22 => (rzV v21 (if mK M22 a0 = 5 then (rzC (C 82 [.ref a0] M22) fun v26 M27 => (rzV v26 (some (.inl (some (.int 7)), M27)))) else none))) else none))) else none) else (some (.inl (some (.int 9)), M10))))) else none)))) else none
set_option maxRecDepth 100000 in
set_option maxHeartbeats 4000000 in
theorem tM_wholeSingle_0 {n : Nat} (F : FX p s m meth c G R M0 d "HeadCountModel" bM_wholeSingle 1 (some .int)) (hC : CBs l G d C) : ∀ (w : Nat) (a0 : Nat) (M : Mem) (H : Heap) (locs : List Loc) (cells slots : Nat) (ls : Array Slot), fM_wholeSingle_0 n d C w a0 M = some (r, M') → RL G M0 M H locs cells slots → lv_has ls 1 [(0, .ref a0)] → W p l e R s m args below meth c H locs cells slots (CQ G below s M0 r M') (F0 m 0 ls []) := by
  obtain ⟨hx, hb, hml, hown, hrt, hlk, hex, hK, hRm⟩ := id F
  intro w
  induction w with
  | zero => intro a0 M H locs cells slots ls h; cases h
  | succ w ih =>
    intro a0 M H locs cells slots ls h hR hl
    rw [fM_wholeSingle_0] at h
    refine lv_aload_n hx hb dM_wholeSingle_0 rfl (lv_at hl 0 rfl) ?_
    obtain ⟨c1, h⟩ := rz_chk h
    obtain ⟨q5, M3, h4, h⟩ := rz_c h
    refine rc_V (rest := []) (As := []) hx hb (hl.1.trans hml.symm) hown hK hR hRm mfM_upper kl_M_82 hk_M rfl rfl c1 (by simp [cat_rf, Value.category]) (hC 85 _ _ _ _ h4) dM_wholeSingle_1 (fun v1 H locs cells slots ev hR => ?_) (fun x1 q1 ce1 H locs cells slots ex hR g1 g2 g3 => ?_)
    · rcases h with ⟨v2, ev2, h⟩ | ⟨e2, ee2, -⟩
      · cases ev.symm.trans ev2
        obtain ⟨x6, rfl, h⟩ := rz_i h
        dsimp only [Option.toList, List.cons_append, List.nil_append]
        refine lv_bipush (v := 9) hx hb dM_wholeSingle_4 (by decide) ?_
        refine lv_icmp_ne (tgt := 23) hx hb dM_wholeSingle_6 (by decide) (fun c7 => ?_) (fun c7 => ?_)
        · replace h := rz_f c7 h
          refine lv_aload_n hx hb dM_wholeSingle_23 rfl (lv_at hl 0 rfl) ?_
          obtain ⟨c8, h⟩ := rz_chk h
          obtain ⟨q12, M10, h11, h⟩ := rz_c h
          refine rc_V (rest := []) (As := []) hx hb (hl.1.trans hml.symm) hown hK hR hRm mfM_upper kl_M_82 hk_M rfl rfl c8 (by simp [cat_rf, Value.category]) (hC 85 _ _ _ _ h11) dM_wholeSingle_24 (fun v1 H locs cells slots ev hR => ?_) (fun x1 q1 ce1 H locs cells slots ex hR g1 g2 g3 => ?_)
          · rcases h with ⟨v9, ev2, h⟩ | ⟨e2, ee2, -⟩
            · cases ev.symm.trans ev2
              obtain ⟨x13, rfl, h⟩ := rz_i h
              dsimp only [Option.toList, List.cons_append, List.nil_append]
              refine lv_bipush (v := 11) hx hb dM_wholeSingle_27 (by decide) ?_
              refine lv_icmp_eq (tgt := 35) hx hb dM_wholeSingle_29 (by decide) (fun c14 => ?_) (fun c14 => ?_)
              · replace h := rz_t c14 h
                refine lv_aload_n hx hb dM_wholeSingle_35 rfl (lv_at hl 0 rfl) ?_
                refine lv_bipush (v := 11) hx hb dM_wholeSingle_36 (by decide) ?_
                refine lv_iconst (v := 0) hx hb dM_wholeSingle_38 (by decide) ?_
                obtain ⟨c15, h⟩ := rz_chk h
                obtain ⟨q19, M17, h18, h⟩ := rz_c h
                refine rc_V (rest := []) (As := [.int 11, .int 0]) hx hb (hl.1.trans hml.symm) hown hK hR hRm mfM_emit kl_M_86 hk_M rfl rfl c15 (by simp [cat_rf, Value.category]) (hC 81 _ _ _ _ h18) dM_wholeSingle_39 (fun v1 H locs cells slots ev hR => ?_) (fun x1 q1 ce1 H locs cells slots ex hR g1 g2 g3 => ?_)
                · rcases h with ⟨v16, ev2, h⟩ | ⟨e2, ee2, -⟩
                  · cases ev.symm.trans ev2
                    obtain ⟨rfl, h⟩ := rz_v h
                    dsimp only [Option.toList, List.cons_append, List.nil_append]
                    refine lv_aload_n hx hb dM_wholeSingle_42 rfl (lv_at hl 0 rfl) ?_
                    obtain ⟨c20, h⟩ := rz_chk h
                    obtain ⟨q24, M22, h23, h⟩ := rz_c h
                    refine rc_V (rest := []) (As := []) hx hb (hl.1.trans hml.symm) hown hK hR hRm mfM_close kl_M_111 hk_M rfl rfl c20 (by simp [cat_rf, Value.category]) (hC 86 _ _ _ _ h23) dM_wholeSingle_43 (fun v1 H locs cells slots ev hR => ?_) (fun x1 q1 ce1 H locs cells slots ex hR g1 g2 g3 => ?_)
                    · rcases h with ⟨v21, ev2, h⟩ | ⟨e2, ee2, -⟩
                      · cases ev.symm.trans ev2
                        obtain ⟨rfl, h⟩ := rz_v h
                        dsimp only [Option.toList, List.cons_append, List.nil_append]
                        refine lv_aload_n hx hb dM_wholeSingle_46 rfl (lv_at hl 0 rfl) ?_
                        obtain ⟨c25, h⟩ := rz_chk h
                        obtain ⟨q29, M27, h28, h⟩ := rz_c h
                        refine rc_V (rest := []) (As := []) hx hb (hl.1.trans hml.symm) hown hK hR hRm mfM_wholePart kl_M_154 hk_M rfl rfl c25 (by simp [cat_rf, Value.category]) (hC 82 _ _ _ _ h28) dM_wholeSingle_47 (fun v1 H locs cells slots ev hR => ?_) (fun x1 q1 ce1 H locs cells slots ex hR g1 g2 g3 => ?_)
                        · rcases h with ⟨v26, ev2, h⟩ | ⟨e2, ee2, -⟩
                          · cases ev.symm.trans ev2
                            obtain ⟨rfl, h⟩ := rz_v h
                            dsimp only [Option.toList, List.cons_append, List.nil_append]
                            refine lv_bipush (v := 7) hx hb dM_wholeSingle_50 (by decide) ?_
                            cases h
                            exact rt_i hx hb hlk hrt (Or.inl rfl) rfl hR dM_wholeSingle_52
                          · cases ev.symm.trans ee2
                        · rcases h with ⟨v2, ev2, -⟩ | ⟨e2, ee2, h⟩
                          · cases ex.symm.trans ev2
                          · cases ex.symm.trans ee2
                            cases h
                            exact rt_x hlk hex hR g1 g2 g3
                      · cases ev.symm.trans ee2
                    · rcases h with ⟨v2, ev2, -⟩ | ⟨e2, ee2, h⟩
                      · cases ex.symm.trans ev2
                      · cases ex.symm.trans ee2
                        cases h
                        exact rt_x hlk hex hR g1 g2 g3
                  · cases ev.symm.trans ee2
                · rcases h with ⟨v2, ev2, -⟩ | ⟨e2, ee2, h⟩
                  · cases ex.symm.trans ev2
                  · cases ex.symm.trans ee2
                    cases h
                    exact rt_x hlk hex hR g1 g2 g3
              · replace h := rz_f c14 h
                refine lv_bipush (v := 9) hx hb dM_wholeSingle_32 (by decide) ?_
                cases h
                exact rt_i hx hb hlk hrt (Or.inl rfl) rfl hR dM_wholeSingle_34
            · cases ev.symm.trans ee2
          · rcases h with ⟨v2, ev2, -⟩ | ⟨e2, ee2, h⟩
            · cases ex.symm.trans ev2
            · cases ex.symm.trans ee2
              cases h
              exact rt_x hlk hex hR g1 g2 g3
        · replace h := rz_t c7 h
          refine lv_aload_n hx hb dM_wholeSingle_9 rfl (lv_at hl 0 rfl) ?_
          refine lv_bipush (v := 9) hx hb dM_wholeSingle_10 (by decide) ?_
          refine lv_iconst (v := 0) hx hb dM_wholeSingle_12 (by decide) ?_
          obtain ⟨c30, h⟩ := rz_chk h
          obtain ⟨q34, M32, h33, h⟩ := rz_c h
          refine rc_V (rest := []) (As := [.int 9, .int 0]) hx hb (hl.1.trans hml.symm) hown hK hR hRm mfM_emit kl_M_86 hk_M rfl rfl c30 (by simp [cat_rf, Value.category]) (hC 81 _ _ _ _ h33) dM_wholeSingle_13 (fun v1 H locs cells slots ev hR => ?_) (fun x1 q1 ce1 H locs cells slots ex hR g1 g2 g3 => ?_)
          · rcases h with ⟨v31, ev2, h⟩ | ⟨e2, ee2, -⟩
            · cases ev.symm.trans ev2
              obtain ⟨rfl, h⟩ := rz_v h
              dsimp only [Option.toList, List.cons_append, List.nil_append]
              refine lv_aload_n hx hb dM_wholeSingle_16 rfl (lv_at hl 0 rfl) ?_
              obtain ⟨c35, h⟩ := rz_chk h
              obtain ⟨q39, M37, h38, h⟩ := rz_c h
              refine rc_V (rest := []) (As := []) hx hb (hl.1.trans hml.symm) hown hK hR hRm mfM_close kl_M_111 hk_M rfl rfl c35 (by simp [cat_rf, Value.category]) (hC 86 _ _ _ _ h38) dM_wholeSingle_17 (fun v1 H locs cells slots ev hR => ?_) (fun x1 q1 ce1 H locs cells slots ex hR g1 g2 g3 => ?_)
              · rcases h with ⟨v36, ev2, h⟩ | ⟨e2, ee2, -⟩
                · cases ev.symm.trans ev2
                  obtain ⟨rfl, h⟩ := rz_v h
                  dsimp only [Option.toList, List.cons_append, List.nil_append]
                  refine lv_goto (tgt := 0) hx hb dM_wholeSingle_20 (by decide) ?_
                  exact ih a0 _ _ _ _ _ _ h hR (lv_sub hl [0] rfl)
                · cases ev.symm.trans ee2
              · rcases h with ⟨v2, ev2, -⟩ | ⟨e2, ee2, h⟩
                · cases ex.symm.trans ev2
                · cases ex.symm.trans ee2
                  cases h
                  exact rt_x hlk hex hR g1 g2 g3
            · cases ev.symm.trans ee2
          · rcases h with ⟨v2, ev2, -⟩ | ⟨e2, ee2, h⟩
            · cases ex.symm.trans ev2
            · cases ex.symm.trans ee2
              cases h
              exact rt_x hlk hex hR g1 g2 g3
      · cases ev.symm.trans ee2
    · rcases h with ⟨v2, ev2, -⟩ | ⟨e2, ee2, h⟩
      · cases ex.symm.trans ev2
      · cases ex.symm.trans ee2
        cases h
        exact rt_x hlk hex hR g1 g2 g3
set_option maxRecDepth 100000 in
set_option maxHeartbeats 4000000 in
theorem sM_wholeSingle {l : Launch} {G : Gx} {n d : Nat} {C : Cx} (hC : CBs l G d C) (a0 : Nat) {M M' : Mem} {r : Option Value ⊕ Nat} (h : fM_wholeSingle_0 n d C n a0 M = some (r, M')) : CB l G (d + 1) yM_wholeSingle [.ref a0] M r M' := by
  intro p e R s m below meth c hx hn hm hc hlk hK hR hcap hS hU hfr hlo hrc hrs
  obtain ⟨hb, hml, hrt, hex, hown⟩ := fx_of hn hm hc (hK.w mfM_wholeSingle.2.2.1 rfl #[])
  have F : FX p s m meth c G R M d "HeadCountModel" bM_wholeSingle 1 (some .int) := ⟨hx, hb, hml, hown, hrt, hlk, hex, hK, hfr, hlo, by rw [← hcap]; exact hrc, hrs⟩
  rw [hml]
  have hl := lv_entry ([.ref a0]) (n := 1) (by simp [lg_sl, cat_rf, Value.category])
  rw [lg_entry_eq]
  generalize (lg_sl ([.ref a0]) ++ List.replicate (1 - (lg_sl ([.ref a0])).length) Slot.unset).toArray = ls at hl ⊢
  have hl : lv_has ls 1 [(0, .ref a0)] := by simpa [lv_args, cat_rf, Value.category] using hl
  exact tM_wholeSingle_0 F hC n a0 _ _ _ _ _ _ h (RL.start hR hcap hS hU) (lv_sub hl [0] rfl)
def fM_afterSingle_128 (n d : Nat) (C : Cx) (xs0 : Int32) (M : Mem) : Rz := some (.inl (some (.int xs0)), M)
set_option maxRecDepth 100000 in
set_option maxHeartbeats 4000000 in
theorem tM_afterSingle_128 {n : Nat} (F : FX p s m meth c G R M0 d "HeadCountModel" bM_afterSingle 2 (some .int)) (hC : CBs l G d C) : ∀ (xs0 : Int32) (M : Mem) (H : Heap) (locs : List Loc) (cells slots : Nat) (ls : Array Slot), fM_afterSingle_128 n d C xs0 M = some (r, M') → RL G M0 M H locs cells slots → lv_has ls 2 [] → W p l e R s m args below meth c H locs cells slots (CQ G below s M0 r M') (F0 m 128 ls [.int xs0]) := by
  obtain ⟨hx, hb, hml, hown, hrt, hlk, hex, hK, hRm⟩ := id F
  intro xs0 M H locs cells slots ls h hR hl
  unfold fM_afterSingle_128 at h
  cases h
  exact rt_i hx hb hlk hrt (Or.inl rfl) rfl hR dM_afterSingle_128
def fM_afterSingle_111 (n d : Nat) (C : Cx) (a0 : Nat) (xs0 : Int32) (as1 : Nat) (M : Mem) : Rz := if mK M as1 = 5 then (rzM (setI M as1 33 xs0) fun M2 => (if mK M2 a0 = 5 then (if (mI M2 a0 33) ≤ 0 then (fM_afterSingle_128 n d C 10 M2) else (fM_afterSingle_128 n d C 8 M2)) else none)) else none
set_option maxRecDepth 100000 in
set_option maxHeartbeats 4000000 in
theorem tM_afterSingle_111 {n : Nat} (F : FX p s m meth c G R M0 d "HeadCountModel" bM_afterSingle 2 (some .int)) (hC : CBs l G d C) : ∀ (a0 : Nat) (xs0 : Int32) (as1 : Nat) (M : Mem) (H : Heap) (locs : List Loc) (cells slots : Nat) (ls : Array Slot), fM_afterSingle_111 n d C a0 xs0 as1 M = some (r, M') → RL G M0 M H locs cells slots → lv_has ls 2 [(0, .ref a0)] → W p l e R s m args below meth c H locs cells slots (CQ G below s M0 r M') (F0 m 111 ls [.int xs0, .ref as1]) := by
  obtain ⟨hx, hb, hml, hown, hrt, hlk, hex, hK, hRm⟩ := id F
  intro a0 xs0 as1 M H locs cells slots ls h hR hl
  unfold fM_afterSingle_111 at h
  obtain ⟨c1, h⟩ := rz_chk h
  obtain ⟨M2, q3, h⟩ := rz_m h
  refine rg_putI hx hb hown hK hR hk_M 33 (by decide) kf_M_101 rfl rfl (ty := .int) (by decide +kernel) (Or.inl rfl) rfl c1 dM_afterSingle_111 (fun H locs hR => ?_)
  rw [← q3] at hR
  have c4 : mK M2 as1 = 5 := by rw [q3]; exact c1
  refine lv_aload_n hx hb dM_afterSingle_114 rfl (lv_at hl 0 rfl) ?_
  obtain ⟨c5, h⟩ := rz_chk h
  refine rg_getI hx hb hown hK hR hk_M 33 (by decide) kf_M_101 rfl c5 dM_afterSingle_115 ?_
  refine lv_if_le (tgt := 126) hx hb dM_afterSingle_118 (by decide) (fun c6 => ?_) (fun c6 => ?_)
  · replace h := rz_t c6 h
    refine lv_bipush (v := 10) hx hb dM_afterSingle_126 (by decide) ?_
    exact tM_afterSingle_128 F hC 10 _ _ _ _ _ _ h hR (lv_sub hl [] rfl)
  · replace h := rz_f c6 h
    refine lv_bipush (v := 8) hx hb dM_afterSingle_121 (by decide) ?_
    refine lv_goto (tgt := 128) hx hb dM_afterSingle_123 (by decide) ?_
    exact tM_afterSingle_128 F hC 8 _ _ _ _ _ _ h hR (lv_sub hl [] rfl)
def fM_afterSingle_174 (n d : Nat) (C : Cx) (xs0 : Int32) (M : Mem) : Rz := some (.inl (some (.int xs0)), M)
set_option maxRecDepth 100000 in
set_option maxHeartbeats 4000000 in
theorem tM_afterSingle_174 {n : Nat} (F : FX p s m meth c G R M0 d "HeadCountModel" bM_afterSingle 2 (some .int)) (hC : CBs l G d C) : ∀ (xs0 : Int32) (M : Mem) (H : Heap) (locs : List Loc) (cells slots : Nat) (ls : Array Slot), fM_afterSingle_174 n d C xs0 M = some (r, M') → RL G M0 M H locs cells slots → lv_has ls 2 [] → W p l e R s m args below meth c H locs cells slots (CQ G below s M0 r M') (F0 m 174 ls [.int xs0]) := by
  obtain ⟨hx, hb, hml, hown, hrt, hlk, hex, hK, hRm⟩ := id F
  intro xs0 M H locs cells slots ls h hR hl
  unfold fM_afterSingle_174 at h
  cases h
  exact rt_i hx hb hlk hrt (Or.inl rfl) rfl hR dM_afterSingle_174
def fM_afterSingle_155 (n d : Nat) (C : Cx) (a0 : Nat) (x1 : Int32) (xs0 : Int32) (as1 : Nat) (M : Mem) : Rz := if mK M as1 = 5 then (rzC (C 81 [.ref as1, .int xs0, .int 0] M) fun v2 M3 => (rzV v2 (if x1 = 93 then (if mK M3 a0 = 5 then (rzC (C 87 [.ref a0] M3) fun v8 M9 => (rzI v8 fun x12 => (fM_afterSingle_174 n d C x12 M9))) else none) else (fM_afterSingle_174 n d C 10 M3)))) else none
set_option maxRecDepth 100000 in
set_option maxHeartbeats 4000000 in
theorem tM_afterSingle_155 {n : Nat} (F : FX p s m meth c G R M0 d "HeadCountModel" bM_afterSingle 2 (some .int)) (hC : CBs l G d C) : ∀ (a0 : Nat) (x1 : Int32) (xs0 : Int32) (as1 : Nat) (M : Mem) (H : Heap) (locs : List Loc) (cells slots : Nat) (ls : Array Slot), fM_afterSingle_155 n d C a0 x1 xs0 as1 M = some (r, M') → RL G M0 M H locs cells slots → lv_has ls 2 [(0, .ref a0), (1, .int x1)] → W p l e R s m args below meth c H locs cells slots (CQ G below s M0 r M') (F0 m 155 ls [.int xs0, .ref as1]) := by
  obtain ⟨hx, hb, hml, hown, hrt, hlk, hex, hK, hRm⟩ := id F
  intro a0 x1 xs0 as1 M H locs cells slots ls h hR hl
  unfold fM_afterSingle_155 at h
  refine lv_iconst (v := 0) hx hb dM_afterSingle_155 (by decide) ?_
  obtain ⟨c1, h⟩ := rz_chk h
  obtain ⟨q5, M3, h4, h⟩ := rz_c h
  refine rc_V (rest := []) (As := [.int xs0, .int 0]) hx hb (hl.1.trans hml.symm) hown hK hR hRm mfM_emit kl_M_86 hk_M rfl rfl c1 (by simp [cat_rf, Value.category]) (hC 81 _ _ _ _ h4) dM_afterSingle_156 (fun v1 H locs cells slots ev hR => ?_) (fun x1 q1 ce1 H locs cells slots ex hR g1 g2 g3 => ?_)
  · rcases h with ⟨v2, ev2, h⟩ | ⟨e2, ee2, -⟩
    · cases ev.symm.trans ev2
      obtain ⟨rfl, h⟩ := rz_v h
      dsimp only [Option.toList, List.cons_append, List.nil_append]
      refine lv_iload_n hx hb dM_afterSingle_159 rfl (lv_at hl 1 rfl) ?_
      refine lv_bipush (v := 93) hx hb dM_afterSingle_160 (by decide) ?_
      refine lv_icmp_ne (tgt := 172) hx hb dM_afterSingle_162 (by decide) (fun c6 => ?_) (fun c6 => ?_)
      · replace h := rz_f c6 h
        refine lv_bipush (v := 10) hx hb dM_afterSingle_172 (by decide) ?_
        exact tM_afterSingle_174 F hC 10 _ _ _ _ _ _ h hR (lv_sub hl [] rfl)
      · replace h := rz_t c6 h
        refine lv_aload_n hx hb dM_afterSingle_165 rfl (lv_at hl 0 rfl) ?_
        obtain ⟨c7, h⟩ := rz_chk h
        obtain ⟨q11, M9, h10, h⟩ := rz_c h
        refine rc_V (rest := []) (As := []) hx hb (hl.1.trans hml.symm) hown hK hR hRm mfM_wholeOne kl_M_117 hk_M rfl rfl c7 (by simp [cat_rf, Value.category]) (hC 87 _ _ _ _ h10) dM_afterSingle_166 (fun v1 H locs cells slots ev hR => ?_) (fun x1 q1 ce1 H locs cells slots ex hR g1 g2 g3 => ?_)
        · rcases h with ⟨v8, ev2, h⟩ | ⟨e2, ee2, -⟩
          · cases ev.symm.trans ev2
            obtain ⟨x12, rfl, h⟩ := rz_i h
            dsimp only [Option.toList, List.cons_append, List.nil_append]
            refine lv_goto (tgt := 174) hx hb dM_afterSingle_169 (by decide) ?_
            exact tM_afterSingle_174 F hC x12 _ _ _ _ _ _ h hR (lv_sub hl [] rfl)
          · cases ev.symm.trans ee2
        · rcases h with ⟨v2, ev2, -⟩ | ⟨e2, ee2, h⟩
          · cases ex.symm.trans ev2
          · cases ex.symm.trans ee2
            cases h
            exact rt_x hlk hex hR g1 g2 g3
    · cases ev.symm.trans ee2
  · rcases h with ⟨v2, ev2, -⟩ | ⟨e2, ee2, h⟩
    · cases ex.symm.trans ev2
    · cases ex.symm.trans ee2
      cases h
      exact rt_x hlk hex hR g1 g2 g3
def fM_afterSingle_70 (n d : Nat) (C : Cx) (a0 : Nat) (x1 : Int32) (M : Mem) : Rz := if mK M a0 = 5 then (rzC (C 85 [.ref a0] M) fun v2 M3 => (rzI v2 fun x6 => (if x6 = 6 then (if mK M3 a0 = 5 then (if (mI M3 a0 33) = 0 then (if x1 = 60 then (fM_afterSingle_111 n d C a0 1 a0 M3) else (if x1 = 61 then (fM_afterSingle_111 n d C a0 2 a0 M3) else (fM_afterSingle_111 n d C a0 0 a0 M3))) else (rzM (setI M3 a0 19 ((mI M3 a0 19) - 1)) fun M10 => (if (mI M10 a0 33) = 1 then (fM_afterSingle_155 n d C a0 x1 22 a0 M10) else (fM_afterSingle_155 n d C a0 x1 20 a0 M10)))) else none) else (some (.inl (some (.int 10)), M3))))) else none
set_option maxRecDepth 100000 in
set_option maxHeartbeats 4000000 in
theorem tM_afterSingle_70 {n : Nat} (F : FX p s m meth c G R M0 d "HeadCountModel" bM_afterSingle 2 (some .int)) (hC : CBs l G d C) : ∀ (a0 : Nat) (x1 : Int32) (M : Mem) (H : Heap) (locs : List Loc) (cells slots : Nat) (ls : Array Slot), fM_afterSingle_70 n d C a0 x1 M = some (r, M') → RL G M0 M H locs cells slots → lv_has ls 2 [(0, .ref a0), (1, .int x1)] → W p l e R s m args below meth c H locs cells slots (CQ G below s M0 r M') (F0 m 70 ls []) := by
  obtain ⟨hx, hb, hml, hown, hrt, hlk, hex, hK, hRm⟩ := id F
  intro a0 x1 M H locs cells slots ls h hR hl
  unfold fM_afterSingle_70 at h
  refine lv_aload_n hx hb dM_afterSingle_70 rfl (lv_at hl 0 rfl) ?_
  obtain ⟨c1, h⟩ := rz_chk h
  obtain ⟨q5, M3, h4, h⟩ := rz_c h
  refine rc_V (rest := []) (As := []) hx hb (hl.1.trans hml.symm) hown hK hR hRm mfM_upper kl_M_82 hk_M rfl rfl c1 (by simp [cat_rf, Value.category]) (hC 85 _ _ _ _ h4) dM_afterSingle_71 (fun v1 H locs cells slots ev hR => ?_) (fun x1 q1 ce1 H locs cells slots ex hR g1 g2 g3 => ?_)
  · rcases h with ⟨v2, ev2, h⟩ | ⟨e2, ee2, -⟩
    · cases ev.symm.trans ev2
      obtain ⟨x6, rfl, h⟩ := rz_i h
      dsimp only [Option.toList, List.cons_append, List.nil_append]
      refine lv_bipush (v := 6) hx hb dM_afterSingle_74 (by decide) ?_
      refine lv_icmp_eq (tgt := 82) hx hb dM_afterSingle_76 (by decide) (fun c7 => ?_) (fun c7 => ?_)
      · replace h := rz_t c7 h
        refine lv_aload_n hx hb dM_afterSingle_82 rfl (lv_at hl 0 rfl) ?_
        obtain ⟨c8, h⟩ := rz_chk h
        refine rg_getI hx hb hown hK hR hk_M 33 (by decide) kf_M_101 rfl c8 dM_afterSingle_83 ?_
        refine lv_if_ne (tgt := 129) hx hb dM_afterSingle_86 (by decide) (fun c9 => ?_) (fun c9 => ?_)
        · replace h := rz_f c9 h
          refine lv_aload_n hx hb dM_afterSingle_129 rfl (lv_at hl 0 rfl) ?_
          refine lv_dup hx hb dM_afterSingle_130 rfl ?_
          refine rg_getI hx hb hown hK hR hk_M 19 (by decide) kf_M_72 rfl c8 dM_afterSingle_131 ?_
          refine lv_iconst (v := 1) hx hb dM_afterSingle_134 (by decide) ?_
          refine lv_isub hx hb dM_afterSingle_135 ?_
          obtain ⟨M10, q11, h⟩ := rz_m h
          refine rg_putI hx hb hown hK hR hk_M 19 (by decide) kf_M_72 rfl rfl (ty := .int) (by decide +kernel) (Or.inl rfl) rfl c8 dM_afterSingle_136 (fun H locs hR => ?_)
          rw [← q11] at hR
          have c12 : mK M10 a0 = 5 := by rw [q11]; exact c8
          refine lv_aload_n hx hb dM_afterSingle_139 rfl (lv_at hl 0 rfl) ?_
          refine lv_aload_n hx hb dM_afterSingle_140 rfl (lv_at hl 0 rfl) ?_
          refine rg_getI hx hb hown hK hR hk_M 33 (by decide) kf_M_101 rfl c12 dM_afterSingle_141 ?_
          refine lv_iconst (v := 1) hx hb dM_afterSingle_144 (by decide) ?_
          refine lv_icmp_ne (tgt := 153) hx hb dM_afterSingle_145 (by decide) (fun c13 => ?_) (fun c13 => ?_)
          · replace h := rz_f c13 h
            refine lv_bipush (v := 20) hx hb dM_afterSingle_153 (by decide) ?_
            exact tM_afterSingle_155 F hC a0 x1 20 a0 _ _ _ _ _ _ h hR (lv_sub hl [0, 1] rfl)
          · replace h := rz_t c13 h
            refine lv_bipush (v := 22) hx hb dM_afterSingle_148 (by decide) ?_
            refine lv_goto (tgt := 155) hx hb dM_afterSingle_150 (by decide) ?_
            exact tM_afterSingle_155 F hC a0 x1 22 a0 _ _ _ _ _ _ h hR (lv_sub hl [0, 1] rfl)
        · replace h := rz_t c9 h
          refine lv_aload_n hx hb dM_afterSingle_89 rfl (lv_at hl 0 rfl) ?_
          refine lv_iload_n hx hb dM_afterSingle_90 rfl (lv_at hl 1 rfl) ?_
          refine lv_bipush (v := 60) hx hb dM_afterSingle_91 (by decide) ?_
          refine lv_icmp_ne (tgt := 100) hx hb dM_afterSingle_93 (by decide) (fun c14 => ?_) (fun c14 => ?_)
          · replace h := rz_f c14 h
            refine lv_iload_n hx hb dM_afterSingle_100 rfl (lv_at hl 1 rfl) ?_
            refine lv_bipush (v := 61) hx hb dM_afterSingle_101 (by decide) ?_
            refine lv_icmp_ne (tgt := 110) hx hb dM_afterSingle_103 (by decide) (fun c15 => ?_) (fun c15 => ?_)
            · replace h := rz_f c15 h
              refine lv_iconst (v := 0) hx hb dM_afterSingle_110 (by decide) ?_
              exact tM_afterSingle_111 F hC a0 0 a0 _ _ _ _ _ _ h hR (lv_sub hl [0] rfl)
            · replace h := rz_t c15 h
              refine lv_iconst (v := 2) hx hb dM_afterSingle_106 (by decide) ?_
              refine lv_goto (tgt := 111) hx hb dM_afterSingle_107 (by decide) ?_
              exact tM_afterSingle_111 F hC a0 2 a0 _ _ _ _ _ _ h hR (lv_sub hl [0] rfl)
          · replace h := rz_t c14 h
            refine lv_iconst (v := 1) hx hb dM_afterSingle_96 (by decide) ?_
            refine lv_goto (tgt := 111) hx hb dM_afterSingle_97 (by decide) ?_
            exact tM_afterSingle_111 F hC a0 1 a0 _ _ _ _ _ _ h hR (lv_sub hl [0] rfl)
      · replace h := rz_f c7 h
        refine lv_bipush (v := 10) hx hb dM_afterSingle_79 (by decide) ?_
        cases h
        exact rt_i hx hb hlk hrt (Or.inl rfl) rfl hR dM_afterSingle_81
    · cases ev.symm.trans ee2
  · rcases h with ⟨v2, ev2, -⟩ | ⟨e2, ee2, h⟩
    · cases ex.symm.trans ev2
    · cases ex.symm.trans ee2
      cases h
      exact rt_x hlk hex hR g1 g2 g3
def fM_afterSingle_0 (n d : Nat) (C : Cx) (a0 : Nat) (x1 : Int32) (M : Mem) : Rz := if x1 = 42 then (if mK M a0 = 5 then (rzC (C 84 [.ref a0, .int 8, .int 8] M) fun v33 M34 => (rzV v33 (if mK M34 a0 = 5 then (rzC (C 75 [.ref a0, .int 8] M34) fun v38 M39 => (rzV v38 (some (.inl (some (.int 8)), M39)))) else none))) else none) else (if mK M a0 = 5 then (rzC (C 84 [.ref a0, .int 8, .int 7] M) fun v3 M4 => (rzV v3 (if x1 = 43 then (if mK M4 a0 = 5 then (rzC (C 75 [.ref a0, .int 7] M4) fun v28 M29 => (rzV v28 (some (.inl (some (.int 8)), M29)))) else none) else (if x1 = 41 then (if mK M4 a0 = 5 then (rzC (C 85 [.ref a0] M4) fun v10 M11 => (rzI v10 fun x14 => (if x14 = 10 then (if mK M11 a0 = 5 then (rzC (C 86 [.ref a0] M11) fun v17 M18 => (rzV v17 (if mK M18 a0 = 5 then (rzC (C 92 [.ref a0] M18) fun v22 M23 => (rzI v22 fun x26 => (some (.inl (some (.int x26)), M23)))) else none))) else none) else (fM_afterSingle_70 n d C a0 x1 M11)))) else none) else (fM_afterSingle_70 n d C a0 x1 M4))))) else none)
set_option maxRecDepth 100000 in
set_option maxHeartbeats 4000000 in
theorem tM_afterSingle_0 {n : Nat} (F : FX p s m meth c G R M0 d "HeadCountModel" bM_afterSingle 2 (some .int)) (hC : CBs l G d C) : ∀ (a0 : Nat) (x1 : Int32) (M : Mem) (H : Heap) (locs : List Loc) (cells slots : Nat) (ls : Array Slot), fM_afterSingle_0 n d C a0 x1 M = some (r, M') → RL G M0 M H locs cells slots → lv_has ls 2 [(0, .ref a0), (1, .int x1)] → W p l e R s m args below meth c H locs cells slots (CQ G below s M0 r M') (F0 m 0 ls []) := by
  obtain ⟨hx, hb, hml, hown, hrt, hlk, hex, hK, hRm⟩ := id F
  intro a0 x1 M H locs cells slots ls h hR hl
  unfold fM_afterSingle_0 at h
  refine lv_iload_n hx hb dM_afterSingle_0 rfl (lv_at hl 1 rfl) ?_
  refine lv_bipush (v := 42) hx hb dM_afterSingle_1 (by decide) ?_
  refine lv_icmp_ne (tgt := 23) hx hb dM_afterSingle_3 (by decide) (fun c1 => ?_) (fun c1 => ?_)
  · replace h := rz_f c1 h
    refine lv_aload_n hx hb dM_afterSingle_23 rfl (lv_at hl 0 rfl) ?_
    refine lv_bipush (v := 8) hx hb dM_afterSingle_24 (by decide) ?_
    refine lv_bipush (v := 7) hx hb dM_afterSingle_26 (by decide) ?_
    obtain ⟨c2, h⟩ := rz_chk h
    obtain ⟨q6, M4, h5, h⟩ := rz_c h
    refine rc_V (rest := []) (As := [.int 8, .int 7]) hx hb (hl.1.trans hml.symm) hown hK hR hRm mfM_settle kl_M_114 hk_M rfl rfl c2 (by simp [cat_rf, Value.category]) (hC 84 _ _ _ _ h5) dM_afterSingle_28 (fun v1 H locs cells slots ev hR => ?_) (fun x1 q1 ce1 H locs cells slots ex hR g1 g2 g3 => ?_)
    · rcases h with ⟨v3, ev2, h⟩ | ⟨e2, ee2, -⟩
      · cases ev.symm.trans ev2
        obtain ⟨rfl, h⟩ := rz_v h
        dsimp only [Option.toList, List.cons_append, List.nil_append]
        refine lv_iload_n hx hb dM_afterSingle_31 rfl (lv_at hl 1 rfl) ?_
        refine lv_bipush (v := 43) hx hb dM_afterSingle_32 (by decide) ?_
        refine lv_icmp_ne (tgt := 46) hx hb dM_afterSingle_34 (by decide) (fun c7 => ?_) (fun c7 => ?_)
        · replace h := rz_f c7 h
          refine lv_iload_n hx hb dM_afterSingle_46 rfl (lv_at hl 1 rfl) ?_
          refine lv_bipush (v := 41) hx hb dM_afterSingle_47 (by decide) ?_
          refine lv_icmp_ne (tgt := 70) hx hb dM_afterSingle_49 (by decide) (fun c8 => ?_) (fun c8 => ?_)
          · replace h := rz_f c8 h
            exact tM_afterSingle_70 F hC a0 x1 _ _ _ _ _ _ h hR (lv_sub hl [0, 1] rfl)
          · replace h := rz_t c8 h
            refine lv_aload_n hx hb dM_afterSingle_52 rfl (lv_at hl 0 rfl) ?_
            obtain ⟨c9, h⟩ := rz_chk h
            obtain ⟨q13, M11, h12, h⟩ := rz_c h
            refine rc_V (rest := []) (As := []) hx hb (hl.1.trans hml.symm) hown hK hR hRm mfM_upper kl_M_82 hk_M rfl rfl c9 (by simp [cat_rf, Value.category]) (hC 85 _ _ _ _ h12) dM_afterSingle_53 (fun v1 H locs cells slots ev hR => ?_) (fun x1 q1 ce1 H locs cells slots ex hR g1 g2 g3 => ?_)
            · rcases h with ⟨v10, ev2, h⟩ | ⟨e2, ee2, -⟩
              · cases ev.symm.trans ev2
                obtain ⟨x14, rfl, h⟩ := rz_i h
                dsimp only [Option.toList, List.cons_append, List.nil_append]
                refine lv_bipush (v := 10) hx hb dM_afterSingle_56 (by decide) ?_
                refine lv_icmp_ne (tgt := 70) hx hb dM_afterSingle_58 (by decide) (fun c15 => ?_) (fun c15 => ?_)
                · replace h := rz_f c15 h
                  exact tM_afterSingle_70 F hC a0 x1 _ _ _ _ _ _ h hR (lv_sub hl [0, 1] rfl)
                · replace h := rz_t c15 h
                  refine lv_aload_n hx hb dM_afterSingle_61 rfl (lv_at hl 0 rfl) ?_
                  obtain ⟨c16, h⟩ := rz_chk h
                  obtain ⟨q20, M18, h19, h⟩ := rz_c h
                  refine rc_V (rest := []) (As := []) hx hb (hl.1.trans hml.symm) hown hK hR hRm mfM_close kl_M_111 hk_M rfl rfl c16 (by simp [cat_rf, Value.category]) (hC 86 _ _ _ _ h19) dM_afterSingle_62 (fun v1 H locs cells slots ev hR => ?_) (fun x1 q1 ce1 H locs cells slots ex hR g1 g2 g3 => ?_)
                  · rcases h with ⟨v17, ev2, h⟩ | ⟨e2, ee2, -⟩
                    · cases ev.symm.trans ev2
                      obtain ⟨rfl, h⟩ := rz_v h
                      dsimp only [Option.toList, List.cons_append, List.nil_append]
                      refine lv_aload_n hx hb dM_afterSingle_65 rfl (lv_at hl 0 rfl) ?_
                      obtain ⟨c21, h⟩ := rz_chk h
                      obtain ⟨q25, M23, h24, h⟩ := rz_c h
                      refine rc_V (rest := []) (As := []) hx hb (hl.1.trans hml.symm) hown hK hR hRm mfM_wholeSingle kl_M_163 hk_M rfl rfl c21 (by simp [cat_rf, Value.category]) (hC 92 _ _ _ _ h24) dM_afterSingle_66 (fun v1 H locs cells slots ev hR => ?_) (fun x1 q1 ce1 H locs cells slots ex hR g1 g2 g3 => ?_)
                      · rcases h with ⟨v22, ev2, h⟩ | ⟨e2, ee2, -⟩
                        · cases ev.symm.trans ev2
                          obtain ⟨x26, rfl, h⟩ := rz_i h
                          dsimp only [Option.toList, List.cons_append, List.nil_append]
                          cases h
                          exact rt_i hx hb hlk hrt (Or.inl rfl) rfl hR dM_afterSingle_69
                        · cases ev.symm.trans ee2
                      · rcases h with ⟨v2, ev2, -⟩ | ⟨e2, ee2, h⟩
                        · cases ex.symm.trans ev2
                        · cases ex.symm.trans ee2
                          cases h
                          exact rt_x hlk hex hR g1 g2 g3
                    · cases ev.symm.trans ee2
                  · rcases h with ⟨v2, ev2, -⟩ | ⟨e2, ee2, h⟩
                    · cases ex.symm.trans ev2
                    · cases ex.symm.trans ee2
                      cases h
                      exact rt_x hlk hex hR g1 g2 g3
              · cases ev.symm.trans ee2
            · rcases h with ⟨v2, ev2, -⟩ | ⟨e2, ee2, h⟩
              · cases ex.symm.trans ev2
              · cases ex.symm.trans ee2
                cases h
                exact rt_x hlk hex hR g1 g2 g3
        · replace h := rz_t c7 h
          refine lv_aload_n hx hb dM_afterSingle_37 rfl (lv_at hl 0 rfl) ?_
          refine lv_bipush (v := 7) hx hb dM_afterSingle_38 (by decide) ?_
          obtain ⟨c27, h⟩ := rz_chk h
          obtain ⟨q31, M29, h30, h⟩ := rz_c h
          refine rc_V (rest := []) (As := [.int 7]) hx hb (hl.1.trans hml.symm) hown hK hR hRm mfM_push kl_M_78 hk_M rfl rfl c27 (by simp [cat_rf, Value.category]) (hC 75 _ _ _ _ h30) dM_afterSingle_40 (fun v1 H locs cells slots ev hR => ?_) (fun x1 q1 ce1 H locs cells slots ex hR g1 g2 g3 => ?_)
          · rcases h with ⟨v28, ev2, h⟩ | ⟨e2, ee2, -⟩
            · cases ev.symm.trans ev2
              obtain ⟨rfl, h⟩ := rz_v h
              dsimp only [Option.toList, List.cons_append, List.nil_append]
              refine lv_bipush (v := 8) hx hb dM_afterSingle_43 (by decide) ?_
              cases h
              exact rt_i hx hb hlk hrt (Or.inl rfl) rfl hR dM_afterSingle_45
            · cases ev.symm.trans ee2
          · rcases h with ⟨v2, ev2, -⟩ | ⟨e2, ee2, h⟩
            · cases ex.symm.trans ev2
            · cases ex.symm.trans ee2
              cases h
              exact rt_x hlk hex hR g1 g2 g3
      · cases ev.symm.trans ee2
    · rcases h with ⟨v2, ev2, -⟩ | ⟨e2, ee2, h⟩
      · cases ex.symm.trans ev2
      · cases ex.symm.trans ee2
        cases h
        exact rt_x hlk hex hR g1 g2 g3
  · replace h := rz_t c1 h
    refine lv_aload_n hx hb dM_afterSingle_6 rfl (lv_at hl 0 rfl) ?_
    refine lv_bipush (v := 8) hx hb dM_afterSingle_7 (by decide) ?_
    refine lv_bipush (v := 8) hx hb dM_afterSingle_9 (by decide) ?_
    obtain ⟨c32, h⟩ := rz_chk h
    obtain ⟨q36, M34, h35, h⟩ := rz_c h
    refine rc_V (rest := []) (As := [.int 8, .int 8]) hx hb (hl.1.trans hml.symm) hown hK hR hRm mfM_settle kl_M_114 hk_M rfl rfl c32 (by simp [cat_rf, Value.category]) (hC 84 _ _ _ _ h35) dM_afterSingle_11 (fun v1 H locs cells slots ev hR => ?_) (fun x1 q1 ce1 H locs cells slots ex hR g1 g2 g3 => ?_)
    · rcases h with ⟨v33, ev2, h⟩ | ⟨e2, ee2, -⟩
      · cases ev.symm.trans ev2
        obtain ⟨rfl, h⟩ := rz_v h
        dsimp only [Option.toList, List.cons_append, List.nil_append]
        refine lv_aload_n hx hb dM_afterSingle_14 rfl (lv_at hl 0 rfl) ?_
        refine lv_bipush (v := 8) hx hb dM_afterSingle_15 (by decide) ?_
        obtain ⟨c37, h⟩ := rz_chk h
        obtain ⟨q41, M39, h40, h⟩ := rz_c h
        refine rc_V (rest := []) (As := [.int 8]) hx hb (hl.1.trans hml.symm) hown hK hR hRm mfM_push kl_M_78 hk_M rfl rfl c37 (by simp [cat_rf, Value.category]) (hC 75 _ _ _ _ h40) dM_afterSingle_17 (fun v1 H locs cells slots ev hR => ?_) (fun x1 q1 ce1 H locs cells slots ex hR g1 g2 g3 => ?_)
        · rcases h with ⟨v38, ev2, h⟩ | ⟨e2, ee2, -⟩
          · cases ev.symm.trans ev2
            obtain ⟨rfl, h⟩ := rz_v h
            dsimp only [Option.toList, List.cons_append, List.nil_append]
            refine lv_bipush (v := 8) hx hb dM_afterSingle_20 (by decide) ?_
            cases h
            exact rt_i hx hb hlk hrt (Or.inl rfl) rfl hR dM_afterSingle_22
          · cases ev.symm.trans ee2
        · rcases h with ⟨v2, ev2, -⟩ | ⟨e2, ee2, h⟩
          · cases ex.symm.trans ev2
          · cases ex.symm.trans ee2
            cases h
            exact rt_x hlk hex hR g1 g2 g3
      · cases ev.symm.trans ee2
    · rcases h with ⟨v2, ev2, -⟩ | ⟨e2, ee2, h⟩
      · cases ex.symm.trans ev2
      · cases ex.symm.trans ee2
        cases h
        exact rt_x hlk hex hR g1 g2 g3
set_option maxRecDepth 100000 in
set_option maxHeartbeats 4000000 in
theorem sM_afterSingle {l : Launch} {G : Gx} {n d : Nat} {C : Cx} (hC : CBs l G d C) (a0 : Nat) (x1 : Int32) {M M' : Mem} {r : Option Value ⊕ Nat} (h : fM_afterSingle_0 n d C a0 x1 M = some (r, M')) : CB l G (d + 1) yM_afterSingle [.ref a0, .int x1] M r M' := by
  intro p e R s m below meth c hx hn hm hc hlk hK hR hcap hS hU hfr hlo hrc hrs
  obtain ⟨hb, hml, hrt, hex, hown⟩ := fx_of hn hm hc (hK.w mfM_afterSingle.2.2.1 rfl #[])
  have F : FX p s m meth c G R M d "HeadCountModel" bM_afterSingle 2 (some .int) := ⟨hx, hb, hml, hown, hrt, hlk, hex, hK, hfr, hlo, by rw [← hcap]; exact hrc, hrs⟩
  rw [hml]
  have hl := lv_entry ([.ref a0, .int x1]) (n := 2) (by simp [lg_sl, cat_rf, Value.category])
  rw [lg_entry_eq]
  generalize (lg_sl ([.ref a0, .int x1]) ++ List.replicate (2 - (lg_sl ([.ref a0, .int x1])).length) Slot.unset).toArray = ls at hl ⊢
  have hl : lv_has ls 2 [(0, .ref a0), (1, .int x1)] := by simpa [lv_args, cat_rf, Value.category] using hl
  exact tM_afterSingle_0 F hC a0 x1 _ _ _ _ _ _ h (RL.start hR hcap hS hU) (lv_sub hl [0, 1] rfl)
end
