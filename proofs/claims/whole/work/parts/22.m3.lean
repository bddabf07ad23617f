theorem dM_read_0 : decode bM_read 0 = .ok (.aload_n 0, 1) := by decide +kernel
theorem dM_read_1 : decode bM_read 1 = .ok (.invokevirtual 190, 3) := by decide +kernel
theorem dM_read_4 : decode bM_read 4 = .ok (.istore_n 1, 1) := by decide +kernel
theorem dM_read_5 : decode bM_read 5 = .ok (.aload_n 0, 1) := by decide +kernel
theorem dM_read_6 : decode bM_read 6 = .ok (.iload_n 1, 1) := by decide +kernel
theorem dM_read_7 : decode bM_read 7 = .ok (.ifCond .eq 7, 3) := by decide +kernel
theorem dM_read_10 : decode bM_read 10 = .ok (.iconst 0, 1) := by decide +kernel
theorem dM_read_11 : decode bM_read 11 = .ok (.goto 4, 3) := by decide +kernel
theorem dM_read_14 : decode bM_read 14 = .ok (.iconst 1, 1) := by decide +kernel
theorem dM_read_15 : decode bM_read 15 = .ok (.putfield 60, 3) := by decide +kernel
theorem dM_read_18 : decode bM_read 18 = .ok (.iload_n 1, 1) := by decide +kernel
theorem dM_read_19 : decode bM_read 19 = .ok (.ifCond .ne 5, 3) := by decide +kernel
theorem dM_read_22 : decode bM_read 22 = .ok (.iconst 0, 1) := by decide +kernel
theorem dM_read_23 : decode bM_read 23 = .ok (.ireturn, 1) := by decide +kernel
theorem dM_read_24 : decode bM_read 24 = .ok (.aload_n 0, 1) := by decide +kernel
theorem dM_read_25 : decode bM_read 25 = .ok (.iconst 1, 1) := by decide +kernel
theorem dM_read_26 : decode bM_read 26 = .ok (.putfield 194, 3) := by decide +kernel
theorem dM_read_29 : decode bM_read 29 = .ok (.aload_n 0, 1) := by decide +kernel
theorem dM_read_30 : decode bM_read 30 = .ok (.aload_n 0, 1) := by decide +kernel
theorem dM_read_31 : decode bM_read 31 = .ok (.getfield 69, 3) := by decide +kernel
theorem dM_read_34 : decode bM_read 34 = .ok (.putfield 197, 3) := by decide +kernel
theorem dM_read_37 : decode bM_read 37 = .ok (.aload_n 0, 1) := by decide +kernel
theorem dM_read_38 : decode bM_read 38 = .ok (.aload_n 0, 1) := by decide +kernel
theorem dM_read_39 : decode bM_read 39 = .ok (.getfield 98, 3) := by decide +kernel
theorem dM_read_42 : decode bM_read 42 = .ok (.putfield 200, 3) := by decide +kernel
theorem dM_read_45 : decode bM_read 45 = .ok (.aload_n 0, 1) := by decide +kernel
theorem dM_read_46 : decode bM_read 46 = .ok (.aload_n 0, 1) := by decide +kernel
theorem dM_read_47 : decode bM_read 47 = .ok (.getfield 184, 3) := by decide +kernel
theorem dM_read_50 : decode bM_read 50 = .ok (.putfield 203, 3) := by decide +kernel
theorem dM_read_53 : decode bM_read 53 = .ok (.iconst 0, 1) := by decide +kernel
theorem dM_read_54 : decode bM_read 54 = .ok (.istore_n 2, 1) := by decide +kernel
theorem dM_read_55 : decode bM_read 55 = .ok (.iload_n 2, 1) := by decide +kernel
theorem dM_read_56 : decode bM_read 56 = .ok (.aload_n 0, 1) := by decide +kernel
theorem dM_read_57 : decode bM_read 57 = .ok (.getfield 197, 3) := by decide +kernel
theorem dM_read_60 : decode bM_read 60 = .ok (.if_icmp .ge 33, 3) := by decide +kernel
theorem dM_read_63 : decode bM_read 63 = .ok (.aload_n 0, 1) := by decide +kernel
theorem dM_read_64 : decode bM_read 64 = .ok (.getfield 13, 3) := by decide +kernel
theorem dM_read_67 : decode bM_read 67 = .ok (.iload_n 2, 1) := by decide +kernel
theorem dM_read_68 : decode bM_read 68 = .ok (.aload_n 0, 1) := by decide +kernel
theorem dM_read_69 : decode bM_read 69 = .ok (.getfield 27, 3) := by decide +kernel
theorem dM_read_72 : decode bM_read 72 = .ok (.iload_n 2, 1) := by decide +kernel
theorem dM_read_73 : decode bM_read 73 = .ok (.iaload, 1) := by decide +kernel
theorem dM_read_74 : decode bM_read 74 = .ok (.iastore, 1) := by decide +kernel
theorem dM_read_75 : decode bM_read 75 = .ok (.aload_n 0, 1) := by decide +kernel
theorem dM_read_76 : decode bM_read 76 = .ok (.getfield 17, 3) := by decide +kernel
theorem dM_read_79 : decode bM_read 79 = .ok (.iload_n 2, 1) := by decide +kernel
theorem dM_read_80 : decode bM_read 80 = .ok (.aload_n 0, 1) := by decide +kernel
theorem dM_read_81 : decode bM_read 81 = .ok (.getfield 30, 3) := by decide +kernel
theorem dM_read_84 : decode bM_read 84 = .ok (.iload_n 2, 1) := by decide +kernel
theorem dM_read_85 : decode bM_read 85 = .ok (.iaload, 1) := by decide +kernel
theorem dM_read_86 : decode bM_read 86 = .ok (.iastore, 1) := by decide +kernel
theorem dM_read_87 : decode bM_read 87 = .ok (.iinc 2 1, 3) := by decide +kernel
theorem dM_read_90 : decode bM_read 90 = .ok (.goto (-35), 3) := by decide +kernel
theorem dM_read_93 : decode bM_read 93 = .ok (.iconst 0, 1) := by decide +kernel
theorem dM_read_94 : decode bM_read 94 = .ok (.istore_n 2, 1) := by decide +kernel
theorem dM_read_95 : decode bM_read 95 = .ok (.iload_n 2, 1) := by decide +kernel
theorem dM_read_96 : decode bM_read 96 = .ok (.aload_n 0, 1) := by decide +kernel
theorem dM_read_97 : decode bM_read 97 = .ok (.getfield 200, 3) := by decide +kernel
theorem dM_read_100 : decode bM_read 100 = .ok (.if_icmp .ge 33, 3) := by decide +kernel
theorem dM_read_103 : decode bM_read 103 = .ok (.aload_n 0, 1) := by decide +kernel
theorem dM_read_104 : decode bM_read 104 = .ok (.getfield 20, 3) := by decide +kernel
theorem dM_read_107 : decode bM_read 107 = .ok (.iload_n 2, 1) := by decide +kernel
theorem dM_read_108 : decode bM_read 108 = .ok (.aload_n 0, 1) := by decide +kernel
theorem dM_read_109 : decode bM_read 109 = .ok (.getfield 33, 3) := by decide +kernel
theorem dM_read_112 : decode bM_read 112 = .ok (.iload_n 2, 1) := by decide +kernel
theorem dM_read_113 : decode bM_read 113 = .ok (.baload, 1) := by decide +kernel
theorem dM_read_114 : decode bM_read 114 = .ok (.bastore, 1) := by decide +kernel
theorem dM_read_115 : decode bM_read 115 = .ok (.aload_n 0, 1) := by decide +kernel
theorem dM_read_116 : decode bM_read 116 = .ok (.getfield 24, 3) := by decide +kernel
theorem dM_read_119 : decode bM_read 119 = .ok (.iload_n 2, 1) := by decide +kernel
theorem dM_read_120 : decode bM_read 120 = .ok (.aload_n 0, 1) := by decide +kernel
theorem dM_read_121 : decode bM_read 121 = .ok (.getfield 36, 3) := by decide +kernel
theorem dM_read_124 : decode bM_read 124 = .ok (.iload_n 2, 1) := by decide +kernel
theorem dM_read_125 : decode bM_read 125 = .ok (.baload, 1) := by decide +kernel
theorem dM_read_126 : decode bM_read 126 = .ok (.bastore, 1) := by decide +kernel
theorem dM_read_127 : decode bM_read 127 = .ok (.iinc 2 1, 3) := by decide +kernel
theorem dM_read_130 : decode bM_read 130 = .ok (.goto (-35), 3) := by decide +kernel
theorem dM_read_133 : decode bM_read 133 = .ok (.aload_n 0, 1) := by decide +kernel
theorem dM_read_134 : decode bM_read 134 = .ok (.iconst 0, 1) := by decide +kernel
theorem dM_read_135 : decode bM_read 135 = .ok (.putfield 66, 3) := by decide +kernel
theorem dM_read_138 : decode bM_read 138 = .ok (.aload_n 0, 1) := by decide +kernel
theorem dM_read_139 : decode bM_read 139 = .ok (.getfield 200, 3) := by decide +kernel
theorem dM_read_142 : decode bM_read 142 = .ok (.ireturn, 1) := by decide +kernel
theorem dM_isSentence_0 : decode bM_isSentence 0 = .ok (.aload_n 0, 1) := by decide +kernel
theorem dM_isSentence_1 : decode bM_isSentence 1 = .ok (.iconst 0, 1) := by decide +kernel
theorem dM_isSentence_2 : decode bM_isSentence 2 = .ok (.putfield 166, 3) := by decide +kernel
theorem dM_isSentence_5 : decode bM_isSentence 5 = .ok (.aload_n 0, 1) := by decide +kernel
theorem dM_isSentence_6 : decode bM_isSentence 6 = .ok (.iconst 0, 1) := by decide +kernel
theorem dM_isSentence_7 : decode bM_isSentence 7 = .ok (.putfield 72, 3) := by decide +kernel
theorem dM_isSentence_10 : decode bM_isSentence 10 = .ok (.aload_n 0, 1) := by decide +kernel
theorem dM_isSentence_11 : decode bM_isSentence 11 = .ok (.iconst 0, 1) := by decide +kernel
theorem dM_isSentence_12 : decode bM_isSentence 12 = .ok (.putfield 75, 3) := by decide +kernel
theorem dM_isSentence_15 : decode bM_isSentence 15 = .ok (.aload_n 0, 1) := by decide +kernel
theorem dM_isSentence_16 : decode bM_isSentence 16 = .ok (.iconst 0, 1) := by decide +kernel
theorem dM_isSentence_17 : decode bM_isSentence 17 = .ok (.putfield 69, 3) := by decide +kernel
theorem dM_isSentence_20 : decode bM_isSentence 20 = .ok (.aload_n 0, 1) := by decide +kernel
theorem dM_isSentence_21 : decode bM_isSentence 21 = .ok (.iconst 0, 1) := by decide +kernel
theorem dM_isSentence_22 : decode bM_isSentence 22 = .ok (.putfield 98, 3) := by decide +kernel
theorem dM_isSentence_25 : decode bM_isSentence 25 = .ok (.iconst 0, 1) := by decide +kernel
theorem dM_isSentence_26 : decode bM_isSentence 26 = .ok (.istore_n 1, 1) := by decide +kernel
theorem dM_isSentence_27 : decode bM_isSentence 27 = .ok (.iload_n 1, 1) := by decide +kernel
theorem dM_isSentence_28 : decode bM_isSentence 28 = .ok (.bipush 6, 2) := by decide +kernel
theorem dM_isSentence_30 : decode bM_isSentence 30 = .ok (.if_icmp .ge 16, 3) := by decide +kernel
theorem dM_isSentence_33 : decode bM_isSentence 33 = .ok (.aload_n 0, 1) := by decide +kernel
theorem dM_isSentence_34 : decode bM_isSentence 34 = .ok (.getfield 48, 3) := by decide +kernel
theorem dM_isSentence_37 : decode bM_isSentence 37 = .ok (.iload_n 1, 1) := by decide +kernel
theorem dM_isSentence_38 : decode bM_isSentence 38 = .ok (.iconst (-1), 1) := by decide +kernel
theorem dM_isSentence_39 : decode bM_isSentence 39 = .ok (.iastore, 1) := by decide +kernel
theorem dM_isSentence_40 : decode bM_isSentence 40 = .ok (.iinc 1 1, 3) := by decide +kernel
theorem dM_isSentence_43 : decode bM_isSentence 43 = .ok (.goto (-16), 3) := by decide +kernel
theorem dM_isSentence_46 : decode bM_isSentence 46 = .ok (.aload_n 0, 1) := by decide +kernel
theorem dM_isSentence_47 : decode bM_isSentence 47 = .ok (.iconst 0, 1) := by decide +kernel
theorem dM_isSentence_48 : decode bM_isSentence 48 = .ok (.putfield 184, 3) := by decide +kernel
theorem dM_isSentence_51 : decode bM_isSentence 51 = .ok (.iconst 1, 1) := by decide +kernel
theorem dM_isSentence_52 : decode bM_isSentence 52 = .ok (.istore_n 1, 1) := by decide +kernel
theorem dM_isSentence_53 : decode bM_isSentence 53 = .ok (.iconst 0, 1) := by decide +kernel
theorem dM_isSentence_54 : decode bM_isSentence 54 = .ok (.istore_n 2, 1) := by decide +kernel
theorem dM_isSentence_55 : decode bM_isSentence 55 = .ok (.iload_n 2, 1) := by decide +kernel
theorem dM_isSentence_56 : decode bM_isSentence 56 = .ok (.aload_n 0, 1) := by decide +kernel
theorem dM_isSentence_57 : decode bM_isSentence 57 = .ok (.getfield 66, 3) := by decide +kernel
theorem dM_isSentence_60 : decode bM_isSentence 60 = .ok (.if_icmp .ge 74, 3) := by decide +kernel
theorem dM_isSentence_63 : decode bM_isSentence 63 = .ok (.aload_n 0, 1) := by decide +kernel
theorem dM_isSentence_64 : decode bM_isSentence 64 = .ok (.getfield 166, 3) := by decide +kernel
theorem dM_isSentence_67 : decode bM_isSentence 67 = .ok (.bipush 10, 2) := by decide +kernel
theorem dM_isSentence_69 : decode bM_isSentence 69 = .ok (.if_icmp .eq 65, 3) := by decide +kernel
theorem dM_isSentence_72 : decode bM_isSentence 72 = .ok (.aload_n 0, 1) := by decide +kernel
theorem dM_isSentence_73 : decode bM_isSentence 73 = .ok (.getfield 7, 3) := by decide +kernel
theorem dM_isSentence_76 : decode bM_isSentence 76 = .ok (.iload_n 2, 1) := by decide +kernel
theorem dM_isSentence_77 : decode bM_isSentence 77 = .ok (.caload, 1) := by decide +kernel
theorem dM_isSentence_78 : decode bM_isSentence 78 = .ok (.istore_n 3, 1) := by decide +kernel
theorem dM_isSentence_79 : decode bM_isSentence 79 = .ok (.iload_n 3, 1) := by decide +kernel
theorem dM_isSentence_80 : decode bM_isSentence 80 = .ok (.bipush 32, 2) := by decide +kernel
theorem dM_isSentence_82 : decode bM_isSentence 82 = .ok (.if_icmp .eq 46, 3) := by decide +kernel
theorem dM_isSentence_85 : decode bM_isSentence 85 = .ok (.aload_n 0, 1) := by decide +kernel
theorem dM_isSentence_86 : decode bM_isSentence 86 = .ok (.iload_n 1, 1) := by decide +kernel
theorem dM_isSentence_87 : decode bM_isSentence 87 = .ok (.ifCond .eq 23, 3) := by decide +kernel
theorem dM_isSentence_90 : decode bM_isSentence 90 = .ok (.iload_n 3, 1) := by decide +kernel
theorem dM_isSentence_91 : decode bM_isSentence 91 = .ok (.bipush 65, 2) := by decide +kernel
theorem dM_isSentence_93 : decode bM_isSentence 93 = .ok (.if_icmp .eq 9, 3) := by decide +kernel
theorem dM_isSentence_96 : decode bM_isSentence 96 = .ok (.iload_n 3, 1) := by decide +kernel
theorem dM_isSentence_97 : decode bM_isSentence 97 = .ok (.bipush 69, 2) := by decide +kernel
theorem dM_isSentence_99 : decode bM_isSentence 99 = .ok (.if_icmp .ne 7, 3) := by decide +kernel
theorem dM_isSentence_102 : decode bM_isSentence 102 = .ok (.iconst 1, 1) := by decide +kernel
theorem dM_isSentence_103 : decode bM_isSentence 103 = .ok (.goto 11, 3) := by decide +kernel
theorem dM_isSentence_106 : decode bM_isSentence 106 = .ok (.iconst 0, 1) := by decide +kernel
theorem dM_isSentence_107 : decode bM_isSentence 107 = .ok (.goto 7, 3) := by decide +kernel
theorem dM_isSentence_110 : decode bM_isSentence 110 = .ok (.aload_n 0, 1) := by decide +kernel
theorem dM_isSentence_111 : decode bM_isSentence 111 = .ok (.getfield 184, 3) := by decide +kernel
theorem dM_isSentence_114 : decode bM_isSentence 114 = .ok (.putfield 184, 3) := by decide +kernel
theorem dM_isSentence_117 : decode bM_isSentence 117 = .ok (.iconst 0, 1) := by decide +kernel
theorem dM_isSentence_118 : decode bM_isSentence 118 = .ok (.istore_n 1, 1) := by decide +kernel
theorem dM_isSentence_119 : decode bM_isSentence 119 = .ok (.aload_n 0, 1) := by decide +kernel
theorem dM_isSentence_120 : decode bM_isSentence 120 = .ok (.aload_n 0, 1) := by decide +kernel
theorem dM_isSentence_121 : decode bM_isSentence 121 = .ok (.iload_n 3, 1) := by decide +kernel
theorem dM_isSentence_122 : decode bM_isSentence 122 = .ok (.invokevirtual 187, 3) := by decide +kernel
theorem dM_isSentence_125 : decode bM_isSentence 125 = .ok (.putfield 166, 3) := by decide +kernel
theorem dM_isSentence_128 : decode bM_isSentence 128 = .ok (.iinc 2 1, 3) := by decide +kernel
theorem dM_isSentence_131 : decode bM_isSentence 131 = .ok (.goto (-76), 3) := by decide +kernel
theorem dM_isSentence_134 : decode bM_isSentence 134 = .ok (.aload_n 0, 1) := by decide +kernel
theorem dM_isSentence_135 : decode bM_isSentence 135 = .ok (.getfield 166, 3) := by decide +kernel
theorem dM_isSentence_138 : decode bM_isSentence 138 = .ok (.iconst 5, 1) := by decide +kernel
theorem dM_isSentence_139 : decode bM_isSentence 139 = .ok (.if_icmp .eq 12, 3) := by decide +kernel
theorem dM_isSentence_142 : decode bM_isSentence 142 = .ok (.aload_n 0, 1) := by decide +kernel
theorem dM_isSentence_143 : decode bM_isSentence 143 = .ok (.getfield 166, 3) := by decide +kernel
theorem dM_isSentence_146 : decode bM_isSentence 146 = .ok (.bipush 7, 2) := by decide +kernel
theorem dM_isSentence_148 : decode bM_isSentence 148 = .ok (.if_icmp .ne 37, 3) := by decide +kernel
theorem dM_isSentence_151 : decode bM_isSentence 151 = .ok (.aload_n 0, 1) := by decide +kernel
theorem dM_isSentence_152 : decode bM_isSentence 152 = .ok (.getfield 101, 3) := by decide +kernel
theorem dM_isSentence_155 : decode bM_isSentence 155 = .ok (.ifCond .le 7, 3) := by decide +kernel
theorem dM_isSentence_158 : decode bM_isSentence 158 = .ok (.iconst 1, 1) := by decide +kernel
theorem dM_isSentence_159 : decode bM_isSentence 159 = .ok (.goto 4, 3) := by decide +kernel
theorem dM_isSentence_162 : decode bM_isSentence 162 = .ok (.iconst 0, 1) := by decide +kernel
theorem dM_isSentence_163 : decode bM_isSentence 163 = .ok (.istore_n 2, 1) := by decide +kernel
theorem dM_isSentence_164 : decode bM_isSentence 164 = .ok (.aload_n 0, 1) := by decide +kernel
theorem dM_isSentence_165 : decode bM_isSentence 165 = .ok (.bipush 32, 2) := by decide +kernel
theorem dM_isSentence_167 : decode bM_isSentence 167 = .ok (.invokevirtual 187, 3) := by decide +kernel
theorem dM_isSentence_170 : decode bM_isSentence 170 = .ok (.pop, 1) := by decide +kernel
theorem dM_isSentence_171 : decode bM_isSentence 171 = .ok (.aload_n 0, 1) := by decide +kernel
theorem dM_isSentence_172 : decode bM_isSentence 172 = .ok (.iload_n 2, 1) := by decide +kernel
theorem dM_isSentence_173 : decode bM_isSentence 173 = .ok (.ifCond .eq 7, 3) := by decide +kernel
theorem dM_isSentence_176 : decode bM_isSentence 176 = .ok (.iconst 1, 1) := by decide +kernel
theorem dM_isSentence_177 : decode bM_isSentence 177 = .ok (.goto 5, 3) := by decide +kernel
theorem dM_isSentence_180 : decode bM_isSentence 180 = .ok (.bipush 10, 2) := by decide +kernel
theorem dM_isSentence_182 : decode bM_isSentence 182 = .ok (.putfield 166, 3) := by decide +kernel
theorem dM_isSentence_185 : decode bM_isSentence 185 = .ok (.aload_n 0, 1) := by decide +kernel
theorem dM_isSentence_186 : decode bM_isSentence 186 = .ok (.getfield 166, 3) := by decide +kernel
theorem dM_isSentence_189 : decode bM_isSentence 189 = .ok (.iconst 1, 1) := by decide +kernel
theorem dM_isSentence_190 : decode bM_isSentence 190 = .ok (.if_icmp .eq 5, 3) := by decide +kernel
theorem dM_isSentence_193 : decode bM_isSentence 193 = .ok (.iconst 0, 1) := by decide +kernel
theorem dM_isSentence_194 : decode bM_isSentence 194 = .ok (.ireturn, 1) := by decide +kernel
theorem dM_isSentence_195 : decode bM_isSentence 195 = .ok (.aload_n 0, 1) := by decide +kernel
theorem dM_isSentence_196 : decode bM_isSentence 196 = .ok (.iconst 2, 1) := by decide +kernel
theorem dM_isSentence_197 : decode bM_isSentence 197 = .ok (.iconst 1, 1) := by decide +kernel
theorem dM_isSentence_198 : decode bM_isSentence 198 = .ok (.invokevirtual 114, 3) := by decide +kernel
theorem dM_isSentence_201 : decode bM_isSentence 201 = .ok (.aload_n 0, 1) := by decide +kernel
theorem dM_isSentence_202 : decode bM_isSentence 202 = .ok (.getfield 72, 3) := by decide +kernel
theorem dM_isSentence_205 : decode bM_isSentence 205 = .ok (.ifCond .ne 7, 3) := by decide +kernel
theorem dM_isSentence_208 : decode bM_isSentence 208 = .ok (.iconst 1, 1) := by decide +kernel
theorem dM_isSentence_209 : decode bM_isSentence 209 = .ok (.goto 4, 3) := by decide +kernel
theorem dM_isSentence_212 : decode bM_isSentence 212 = .ok (.iconst 0, 1) := by decide +kernel
theorem dM_isSentence_213 : decode bM_isSentence 213 = .ok (.ireturn, 1) := by decide +kernel
theorem dM_next_0 : decode bM_next 0 = .ok (.aload_n 0, 1) := by decide +kernel
theorem dM_next_1 : decode bM_next 1 = .ok (.getfield 166, 3) := by decide +kernel
theorem dM_next_4 : decode bM_next 4 = .ok (.tableswitch 116 0 9 #[56, 62, 68, 74, 80, 86, 92, 98, 104, 110], 56) := by decide +kernel
theorem dM_next_60 : decode bM_next 60 = .ok (.aload_n 0, 1) := by decide +kernel
theorem dM_next_61 : decode bM_next 61 = .ok (.iload_n 1, 1) := by decide +kernel
theorem dM_next_62 : decode bM_next 62 = .ok (.invokevirtual 169, 3) := by decide +kernel
theorem dM_next_65 : decode bM_next 65 = .ok (.ireturn, 1) := by decide +kernel
theorem dM_next_66 : decode bM_next 66 = .ok (.aload_n 0, 1) := by decide +kernel
theorem dM_next_67 : decode bM_next 67 = .ok (.iload_n 1, 1) := by decide +kernel
theorem dM_next_68 : decode bM_next 68 = .ok (.invokevirtual 160, 3) := by decide +kernel
theorem dM_next_71 : decode bM_next 71 = .ok (.ireturn, 1) := by decide +kernel
theorem dM_next_72 : decode bM_next 72 = .ok (.aload_n 0, 1) := by decide +kernel
theorem dM_next_73 : decode bM_next 73 = .ok (.iload_n 1, 1) := by decide +kernel
theorem dM_next_74 : decode bM_next 74 = .ok (.invokevirtual 172, 3) := by decide +kernel
theorem dM_next_77 : decode bM_next 77 = .ok (.ireturn, 1) := by decide +kernel
theorem dM_next_78 : decode bM_next 78 = .ok (.aload_n 0, 1) := by decide +kernel
theorem dM_next_79 : decode bM_next 79 = .ok (.iload_n 1, 1) := by decide +kernel
theorem dM_next_80 : decode bM_next 80 = .ok (.invokevirtual 104, 3) := by decide +kernel
theorem dM_next_83 : decode bM_next 83 = .ok (.ireturn, 1) := by decide +kernel
theorem dM_next_84 : decode bM_next 84 = .ok (.aload_n 0, 1) := by decide +kernel
theorem dM_next_85 : decode bM_next 85 = .ok (.iload_n 1, 1) := by decide +kernel
theorem dM_next_86 : decode bM_next 86 = .ok (.invokevirtual 129, 3) := by decide +kernel
theorem dM_next_89 : decode bM_next 89 = .ok (.ireturn, 1) := by decide +kernel
theorem dM_next_90 : decode bM_next 90 = .ok (.aload_n 0, 1) := by decide +kernel
theorem dM_next_91 : decode bM_next 91 = .ok (.iload_n 1, 1) := by decide +kernel
theorem dM_next_92 : decode bM_next 92 = .ok (.invokevirtual 175, 3) := by decide +kernel
theorem dM_next_95 : decode bM_next 95 = .ok (.ireturn, 1) := by decide +kernel
theorem dM_next_96 : decode bM_next 96 = .ok (.aload_n 0, 1) := by decide +kernel
theorem dM_next_97 : decode bM_next 97 = .ok (.iload_n 1, 1) := by decide +kernel
theorem dM_next_98 : decode bM_next 98 = .ok (.invokevirtual 145, 3) := by decide +kernel
theorem dM_next_101 : decode bM_next 101 = .ok (.ireturn, 1) := by decide +kernel
theorem dM_next_102 : decode bM_next 102 = .ok (.aload_n 0, 1) := by decide +kernel
theorem dM_next_103 : decode bM_next 103 = .ok (.iload_n 1, 1) := by decide +kernel
theorem dM_next_104 : decode bM_next 104 = .ok (.invokevirtual 157, 3) := by decide +kernel
theorem dM_next_107 : decode bM_next 107 = .ok (.ireturn, 1) := by decide +kernel
theorem dM_next_108 : decode bM_next 108 = .ok (.aload_n 0, 1) := by decide +kernel
theorem dM_next_109 : decode bM_next 109 = .ok (.iload_n 1, 1) := by decide +kernel
theorem dM_next_110 : decode bM_next 110 = .ok (.invokevirtual 178, 3) := by decide +kernel
theorem dM_next_113 : decode bM_next 113 = .ok (.ireturn, 1) := by decide +kernel
theorem dM_next_114 : decode bM_next 114 = .ok (.aload_n 0, 1) := by decide +kernel
theorem dM_next_115 : decode bM_next 115 = .ok (.iload_n 1, 1) := by decide +kernel
theorem dM_next_116 : decode bM_next 116 = .ok (.invokevirtual 181, 3) := by decide +kernel
theorem dM_next_119 : decode bM_next 119 = .ok (.ireturn, 1) := by decide +kernel
theorem dM_next_120 : decode bM_next 120 = .ok (.bipush 10, 2) := by decide +kernel
theorem dM_next_122 : decode bM_next 122 = .ok (.ireturn, 1) := by decide +kernel
theorem dM_single_0 : decode bM_single 0 = .ok (.iload_n 1, 1) := by decide +kernel
theorem dM_single_1 : decode bM_single 1 = .ok (.invokestatic 108, 3) := by decide +kernel
theorem dM_single_4 : decode bM_single 4 = .ok (.istore_n 2, 1) := by decide +kernel
theorem dM_single_5 : decode bM_single 5 = .ok (.iload_n 1, 1) := by decide +kernel
theorem dM_single_6 : decode bM_single 6 = .ok (.bipush 45, 2) := by decide +kernel
theorem dM_single_8 : decode bM_single 8 = .ok (.if_icmp .ne 20, 3) := by decide +kernel
theorem dM_single_11 : decode bM_single 11 = .ok (.aload_n 0, 1) := by decide +kernel
theorem dM_single_12 : decode bM_single 12 = .ok (.bipush 9, 2) := by decide +kernel
theorem dM_single_14 : decode bM_single 14 = .ok (.invokevirtual 90, 3) := by decide +kernel
theorem dM_single_17 : decode bM_single 17 = .ok (.ifCond .eq 8, 3) := by decide +kernel
theorem dM_single_20 : decode bM_single 20 = .ok (.bipush 8, 2) := by decide +kernel
theorem dM_single_22 : decode bM_single 22 = .ok (.goto 5, 3) := by decide +kernel
theorem dM_single_25 : decode bM_single 25 = .ok (.bipush 10, 2) := by decide +kernel
theorem dM_single_27 : decode bM_single 27 = .ok (.ireturn, 1) := by decide +kernel
theorem dM_single_28 : decode bM_single 28 = .ok (.iload_n 1, 1) := by decide +kernel
theorem dM_single_29 : decode bM_single 29 = .ok (.bipush 40, 2) := by decide +kernel
theorem dM_single_31 : decode bM_single 31 = .ok (.if_icmp .ne 20, 3) := by decide +kernel
theorem dM_single_34 : decode bM_single 34 = .ok (.aload_n 0, 1) := by decide +kernel
theorem dM_single_35 : decode bM_single 35 = .ok (.bipush 10, 2) := by decide +kernel
theorem dM_single_37 : decode bM_single 37 = .ok (.invokevirtual 90, 3) := by decide +kernel
theorem dM_single_40 : decode bM_single 40 = .ok (.ifCond .eq 8, 3) := by decide +kernel
theorem dM_single_43 : decode bM_single 43 = .ok (.bipush 8, 2) := by decide +kernel
theorem dM_single_45 : decode bM_single 45 = .ok (.goto 5, 3) := by decide +kernel
theorem dM_single_48 : decode bM_single 48 = .ok (.bipush 10, 2) := by decide +kernel
theorem dM_single_50 : decode bM_single 50 = .ok (.ireturn, 1) := by decide +kernel
theorem dM_single_51 : decode bM_single 51 = .ok (.iload_n 1, 1) := by decide +kernel
theorem dM_single_52 : decode bM_single 52 = .ok (.bipush 48, 2) := by decide +kernel
theorem dM_single_54 : decode bM_single 54 = .ok (.if_icmp .eq 9, 3) := by decide +kernel
theorem dM_single_57 : decode bM_single 57 = .ok (.iload_n 1, 1) := by decide +kernel
theorem dM_single_58 : decode bM_single 58 = .ok (.bipush 49, 2) := by decide +kernel
theorem dM_single_60 : decode bM_single 60 = .ok (.if_icmp .ne 24, 3) := by decide +kernel
theorem dM_single_63 : decode bM_single 63 = .ok (.aload_n 0, 1) := by decide +kernel
theorem dM_single_64 : decode bM_single 64 = .ok (.iload_n 1, 1) := by decide +kernel
theorem dM_single_65 : decode bM_single 65 = .ok (.bipush 48, 2) := by decide +kernel
theorem dM_single_67 : decode bM_single 67 = .ok (.if_icmp .ne 8, 3) := by decide +kernel
theorem dM_single_70 : decode bM_single 70 = .ok (.bipush 23, 2) := by decide +kernel
theorem dM_single_72 : decode bM_single 72 = .ok (.goto 5, 3) := by decide +kernel
theorem dM_single_75 : decode bM_single 75 = .ok (.bipush 24, 2) := by decide +kernel
theorem dM_single_77 : decode bM_single 77 = .ok (.iconst 0, 1) := by decide +kernel
theorem dM_single_78 : decode bM_single 78 = .ok (.invokevirtual 86, 3) := by decide +kernel
theorem dM_single_81 : decode bM_single 81 = .ok (.goto 35, 3) := by decide +kernel
theorem dM_single_84 : decode bM_single 84 = .ok (.iload_n 2, 1) := by decide +kernel
theorem dM_single_85 : decode bM_single 85 = .ok (.iconst 2, 1) := by decide +kernel
theorem dM_single_86 : decode bM_single 86 = .ok (.if_icmp .le 27, 3) := by decide +kernel
theorem dM_single_89 : decode bM_single 89 = .ok (.aload_n 0, 1) := by decide +kernel
theorem dM_single_90 : decode bM_single 90 = .ok (.getfield 48, 3) := by decide +kernel
theorem dM_single_93 : decode bM_single 93 = .ok (.iload_n 2, 1) := by decide +kernel
theorem dM_single_94 : decode bM_single 94 = .ok (.iaload, 1) := by decide +kernel
theorem dM_single_95 : decode bM_single 95 = .ok (.ifCond .lt 18, 3) := by decide +kernel
theorem dM_single_98 : decode bM_single 98 = .ok (.aload_n 0, 1) := by decide +kernel
theorem dM_single_99 : decode bM_single 99 = .ok (.bipush 14, 2) := by decide +kernel
theorem dM_single_101 : decode bM_single 101 = .ok (.aload_n 0, 1) := by decide +kernel
theorem dM_single_102 : decode bM_single 102 = .ok (.getfield 48, 3) := by decide +kernel
theorem dM_single_105 : decode bM_single 105 = .ok (.iload_n 2, 1) := by decide +kernel
theorem dM_single_106 : decode bM_single 106 = .ok (.iaload, 1) := by decide +kernel
theorem dM_single_107 : decode bM_single 107 = .ok (.invokevirtual 86, 3) := by decide +kernel
theorem dM_single_110 : decode bM_single 110 = .ok (.goto 6, 3) := by decide +kernel
theorem dM_single_113 : decode bM_single 113 = .ok (.bipush 10, 2) := by decide +kernel
theorem dM_single_115 : decode bM_single 115 = .ok (.ireturn, 1) := by decide +kernel
theorem dM_single_116 : decode bM_single 116 = .ok (.aload_n 0, 1) := by decide +kernel
theorem dM_single_117 : decode bM_single 117 = .ok (.invokevirtual 163, 3) := by decide +kernel
theorem dM_single_120 : decode bM_single 120 = .ok (.ireturn, 1) := by decide +kernel
theorem dM_wholeSingle_0 : decode bM_wholeSingle 0 = .ok (.aload_n 0, 1) := by decide +kernel
theorem dM_wholeSingle_1 : decode bM_wholeSingle 1 = .ok (.invokevirtual 82, 3) := by decide +kernel
theorem dM_wholeSingle_4 : decode bM_wholeSingle 4 = .ok (.bipush 9, 2) := by decide +kernel
theorem dM_wholeSingle_6 : decode bM_wholeSingle 6 = .ok (.if_icmp .ne 17, 3) := by decide +kernel
theorem dM_wholeSingle_9 : decode bM_wholeSingle 9 = .ok (.aload_n 0, 1) := by decide +kernel
theorem dM_wholeSingle_10 : decode bM_wholeSingle 10 = .ok (.bipush 9, 2) := by decide +kernel
theorem dM_wholeSingle_12 : decode bM_wholeSingle 12 = .ok (.iconst 0, 1) := by decide +kernel
theorem dM_wholeSingle_13 : decode bM_wholeSingle 13 = .ok (.invokevirtual 86, 3) := by decide +kernel
theorem dM_wholeSingle_16 : decode bM_wholeSingle 16 = .ok (.aload_n 0, 1) := by decide +kernel
theorem dM_wholeSingle_17 : decode bM_wholeSingle 17 = .ok (.invokevirtual 111, 3) := by decide +kernel
theorem dM_wholeSingle_20 : decode bM_wholeSingle 20 = .ok (.goto (-20), 3) := by decide +kernel
theorem dM_wholeSingle_23 : decode bM_wholeSingle 23 = .ok (.aload_n 0, 1) := by decide +kernel
theorem dM_wholeSingle_24 : decode bM_wholeSingle 24 = .ok (.invokevirtual 82, 3) := by decide +kernel
theorem dM_wholeSingle_27 : decode bM_wholeSingle 27 = .ok (.bipush 11, 2) := by decide +kernel
theorem dM_wholeSingle_29 : decode bM_wholeSingle 29 = .ok (.if_icmp .eq 6, 3) := by decide +kernel
theorem dM_wholeSingle_32 : decode bM_wholeSingle 32 = .ok (.bipush 9, 2) := by decide +kernel
theorem dM_wholeSingle_34 : decode bM_wholeSingle 34 = .ok (.ireturn, 1) := by decide +kernel
theorem dM_wholeSingle_35 : decode bM_wholeSingle 35 = .ok (.aload_n 0, 1) := by decide +kernel
theorem dM_wholeSingle_36 : decode bM_wholeSingle 36 = .ok (.bipush 11, 2) := by decide +kernel
theorem dM_wholeSingle_38 : decode bM_wholeSingle 38 = .ok (.iconst 0, 1) := by decide +kernel
theorem dM_wholeSingle_39 : decode bM_wholeSingle 39 = .ok (.invokevirtual 86, 3) := by decide +kernel
theorem dM_wholeSingle_42 : decode bM_wholeSingle 42 = .ok (.aload_n 0, 1) := by decide +kernel
theorem dM_wholeSingle_43 : decode bM_wholeSingle 43 = .ok (.invokevirtual 111, 3) := by decide +kernel
theorem dM_wholeSingle_46 : decode bM_wholeSingle 46 = .ok (.aload_n 0, 1) := by decide +kernel
theorem dM_wholeSingle_47 : decode bM_wholeSingle 47 = .ok (.invokevirtual 154, 3) := by decide +kernel
theorem dM_wholeSingle_50 : decode bM_wholeSingle 50 = .ok (.bipush 7, 2) := by decide +kernel
theorem dM_wholeSingle_52 : decode bM_wholeSingle 52 = .ok (.ireturn, 1) := by decide +kernel
theorem dM_afterSingle_0 : decode bM_afterSingle 0 = .ok (.iload_n 1, 1) := by decide +kernel
theorem dM_afterSingle_1 : decode bM_afterSingle 1 = .ok (.bipush 42, 2) := by decide +kernel
theorem dM_afterSingle_3 : decode bM_afterSingle 3 = .ok (.if_icmp .ne 20, 3) := by decide +kernel
theorem dM_afterSingle_6 : decode bM_afterSingle 6 = .ok (.aload_n 0, 1) := by decide +kernel
theorem dM_afterSingle_7 : decode bM_afterSingle 7 = .ok (.bipush 8, 2) := by decide +kernel
theorem dM_afterSingle_9 : decode bM_afterSingle 9 = .ok (.bipush 8, 2) := by decide +kernel
theorem dM_afterSingle_11 : decode bM_afterSingle 11 = .ok (.invokevirtual 114, 3) := by decide +kernel
theorem dM_afterSingle_14 : decode bM_afterSingle 14 = .ok (.aload_n 0, 1) := by decide +kernel
theorem dM_afterSingle_15 : decode bM_afterSingle 15 = .ok (.bipush 8, 2) := by decide +kernel
theorem dM_afterSingle_17 : decode bM_afterSingle 17 = .ok (.invokevirtual 78, 3) := by decide +kernel
theorem dM_afterSingle_20 : decode bM_afterSingle 20 = .ok (.bipush 8, 2) := by decide +kernel
theorem dM_afterSingle_22 : decode bM_afterSingle 22 = .ok (.ireturn, 1) := by decide +kernel
theorem dM_afterSingle_23 : decode bM_afterSingle 23 = .ok (.aload_n 0, 1) := by decide +kernel
theorem dM_afterSingle_24 : decode bM_afterSingle 24 = .ok (.bipush 8, 2) := by decide +kernel
theorem dM_afterSingle_26 : decode bM_afterSingle 26 = .ok (.bipush 7, 2) := by decide +kernel
theorem dM_afterSingle_28 : decode bM_afterSingle 28 = .ok (.invokevirtual 114, 3) := by decide +kernel
theorem dM_afterSingle_31 : decode bM_afterSingle 31 = .ok (.iload_n 1, 1) := by decide +kernel
theorem dM_afterSingle_32 : decode bM_afterSingle 32 = .ok (.bipush 43, 2) := by decide +kernel
theorem dM_afterSingle_34 : decode bM_afterSingle 34 = .ok (.if_icmp .ne 12, 3) := by decide +kernel
theorem dM_afterSingle_37 : decode bM_afterSingle 37 = .ok (.aload_n 0, 1) := by decide +kernel
theorem dM_afterSingle_38 : decode bM_afterSingle 38 = .ok (.bipush 7, 2) := by decide +kernel
theorem dM_afterSingle_40 : decode bM_afterSingle 40 = .ok (.invokevirtual 78, 3) := by decide +kernel
theorem dM_afterSingle_43 : decode bM_afterSingle 43 = .ok (.bipush 8, 2) := by decide +kernel
theorem dM_afterSingle_45 : decode bM_afterSingle 45 = .ok (.ireturn, 1) := by decide +kernel
theorem dM_afterSingle_46 : decode bM_afterSingle 46 = .ok (.iload_n 1, 1) := by decide +kernel
theorem dM_afterSingle_47 : decode bM_afterSingle 47 = .ok (.bipush 41, 2) := by decide +kernel
theorem dM_afterSingle_49 : decode bM_afterSingle 49 = .ok (.if_icmp .ne 21, 3) := by decide +kernel
theorem dM_afterSingle_52 : decode bM_afterSingle 52 = .ok (.aload_n 0, 1) := by decide +kernel
theorem dM_afterSingle_53 : decode bM_afterSingle 53 = .ok (.invokevirtual 82, 3) := by decide +kernel
theorem dM_afterSingle_56 : decode bM_afterSingle 56 = .ok (.bipush 10, 2) := by decide +kernel
theorem dM_afterSingle_58 : decode bM_afterSingle 58 = .ok (.if_icmp .ne 12, 3) := by decide +kernel
theorem dM_afterSingle_61 : decode bM_afterSingle 61 = .ok (.aload_n 0, 1) := by decide +kernel
theorem dM_afterSingle_62 : decode bM_afterSingle 62 = .ok (.invokevirtual 111, 3) := by decide +kernel
theorem dM_afterSingle_65 : decode bM_afterSingle 65 = .ok (.aload_n 0, 1) := by decide +kernel
theorem dM_afterSingle_66 : decode bM_afterSingle 66 = .ok (.invokevirtual 163, 3) := by decide +kernel
theorem dM_afterSingle_69 : decode bM_afterSingle 69 = .ok (.ireturn, 1) := by decide +kernel
theorem dM_afterSingle_70 : decode bM_afterSingle 70 = .ok (.aload_n 0, 1) := by decide +kernel
theorem dM_afterSingle_71 : decode bM_afterSingle 71 = .ok (.invokevirtual 82, 3) := by decide +kernel
theorem dM_afterSingle_74 : decode bM_afterSingle 74 = .ok (.bipush 6, 2) := by decide +kernel
theorem dM_afterSingle_76 : decode bM_afterSingle 76 = .ok (.if_icmp .eq 6, 3) := by decide +kernel
theorem dM_afterSingle_79 : decode bM_afterSingle 79 = .ok (.bipush 10, 2) := by decide +kernel
theorem dM_afterSingle_81 : decode bM_afterSingle 81 = .ok (.ireturn, 1) := by decide +kernel
theorem dM_afterSingle_82 : decode bM_afterSingle 82 = .ok (.aload_n 0, 1) := by decide +kernel
theorem dM_afterSingle_83 : decode bM_afterSingle 83 = .ok (.getfield 101, 3) := by decide +kernel
theorem dM_afterSingle_86 : decode bM_afterSingle 86 = .ok (.ifCond .ne 43, 3) := by decide +kernel
theorem dM_afterSingle_89 : decode bM_afterSingle 89 = .ok (.aload_n 0, 1) := by decide +kernel
theorem dM_afterSingle_90 : decode bM_afterSingle 90 = .ok (.iload_n 1, 1) := by decide +kernel
theorem dM_afterSingle_91 : decode bM_afterSingle 91 = .ok (.bipush 60, 2) := by decide +kernel
theorem dM_afterSingle_93 : decode bM_afterSingle 93 = .ok (.if_icmp .ne 7, 3) := by decide +kernel
theorem dM_afterSingle_96 : decode bM_afterSingle 96 = .ok (.iconst 1, 1) := by decide +kernel
theorem dM_afterSingle_97 : decode bM_afterSingle 97 = .ok (.goto 14, 3) := by decide +kernel
theorem dM_afterSingle_100 : decode bM_afterSingle 100 = .ok (.iload_n 1, 1) := by decide +kernel
theorem dM_afterSingle_101 : decode bM_afterSingle 101 = .ok (.bipush 61, 2) := by decide +kernel
theorem dM_afterSingle_103 : decode bM_afterSingle 103 = .ok (.if_icmp .ne 7, 3) := by decide +kernel
theorem dM_afterSingle_106 : decode bM_afterSingle 106 = .ok (.iconst 2, 1) := by decide +kernel
theorem dM_afterSingle_107 : decode bM_afterSingle 107 = .ok (.goto 4, 3) := by decide +kernel
theorem dM_afterSingle_110 : decode bM_afterSingle 110 = .ok (.iconst 0, 1) := by decide +kernel
theorem dM_afterSingle_111 : decode bM_afterSingle 111 = .ok (.putfield 101, 3) := by decide +kernel
theorem dM_afterSingle_114 : decode bM_afterSingle 114 = .ok (.aload_n 0, 1) := by decide +kernel
theorem dM_afterSingle_115 : decode bM_afterSingle 115 = .ok (.getfield 101, 3) := by decide +kernel
theorem dM_afterSingle_118 : decode bM_afterSingle 118 = .ok (.ifCond .le 8, 3) := by decide +kernel
theorem dM_afterSingle_121 : decode bM_afterSingle 121 = .ok (.bipush 8, 2) := by decide +kernel
theorem dM_afterSingle_123 : decode bM_afterSingle 123 = .ok (.goto 5, 3) := by decide +kernel
theorem dM_afterSingle_126 : decode bM_afterSingle 126 = .ok (.bipush 10, 2) := by decide +kernel
theorem dM_afterSingle_128 : decode bM_afterSingle 128 = .ok (.ireturn, 1) := by decide +kernel
theorem dM_afterSingle_129 : decode bM_afterSingle 129 = .ok (.aload_n 0, 1) := by decide +kernel
theorem dM_afterSingle_130 : decode bM_afterSingle 130 = .ok (.dup, 1) := by decide +kernel
theorem dM_afterSingle_131 : decode bM_afterSingle 131 = .ok (.getfield 72, 3) := by decide +kernel
theorem dM_afterSingle_134 : decode bM_afterSingle 134 = .ok (.iconst 1, 1) := by decide +kernel
theorem dM_afterSingle_135 : decode bM_afterSingle 135 = .ok (.isub, 1) := by decide +kernel
theorem dM_afterSingle_136 : decode bM_afterSingle 136 = .ok (.putfield 72, 3) := by decide +kernel
theorem dM_afterSingle_139 : decode bM_afterSingle 139 = .ok (.aload_n 0, 1) := by decide +kernel
theorem dM_afterSingle_140 : decode bM_afterSingle 140 = .ok (.aload_n 0, 1) := by decide +kernel
theorem dM_afterSingle_141 : decode bM_afterSingle 141 = .ok (.getfield 101, 3) := by decide +kernel
theorem dM_afterSingle_144 : decode bM_afterSingle 144 = .ok (.iconst 1, 1) := by decide +kernel
theorem dM_afterSingle_145 : decode bM_afterSingle 145 = .ok (.if_icmp .ne 8, 3) := by decide +kernel
theorem dM_afterSingle_148 : decode bM_afterSingle 148 = .ok (.bipush 22, 2) := by decide +kernel
theorem dM_afterSingle_150 : decode bM_afterSingle 150 = .ok (.goto 5, 3) := by decide +kernel
theorem dM_afterSingle_153 : decode bM_afterSingle 153 = .ok (.bipush 20, 2) := by decide +kernel
theorem dM_afterSingle_155 : decode bM_afterSingle 155 = .ok (.iconst 0, 1) := by decide +kernel
theorem dM_afterSingle_156 : decode bM_afterSingle 156 = .ok (.invokevirtual 86, 3) := by decide +kernel
theorem dM_afterSingle_159 : decode bM_afterSingle 159 = .ok (.iload_n 1, 1) := by decide +kernel
theorem dM_afterSingle_160 : decode bM_afterSingle 160 = .ok (.bipush 93, 2) := by decide +kernel
theorem dM_afterSingle_162 : decode bM_afterSingle 162 = .ok (.if_icmp .ne 10, 3) := by decide +kernel
theorem dM_afterSingle_165 : decode bM_afterSingle 165 = .ok (.aload_n 0, 1) := by decide +kernel
theorem dM_afterSingle_166 : decode bM_afterSingle 166 = .ok (.invokevirtual 117, 3) := by decide +kernel
theorem dM_afterSingle_169 : decode bM_afterSingle 169 = .ok (.goto 5, 3) := by decide +kernel
theorem dM_afterSingle_172 : decode bM_afterSingle 172 = .ok (.bipush 10, 2) := by decide +kernel
theorem dM_afterSingle_174 : decode bM_afterSingle 174 = .ok (.ireturn, 1) := by decide +kernel
section
variable {p : Program} {l : Launch} {e : Env} {R : Room} {s : State} {m : MethodId} {args : Array Value} {below : List Frame} {meth : Method} {c : Code} {G : Gx} {M0 M' : Mem} {r : Option Value ⊕ Nat} {d : Nat} {C : Cx}

def fM_read_95 (n d : Nat) (C : Cx) : Nat → Nat → Int32 → Mem → Rz
  | 0, _, _, _ => none
  | w + 1, a0, x2, M => if mK M a0 = 5 then (if (mI M a0 5) ≤ x2 then (rzM (setI M a0 1 0) fun M_3 => (some (.inl (some (.int (mI M_3 a0 5))), M_3))) else (rzD (mP M a0 16) fun a_6 => (if mK M a_6 = 23 then (if inA x2 (mL M a_6) then (rzD (mP M a0 8) fun a_10 => (if mK M a_10 = 23 then (if inA x2 (mL M a_10) then (if fits .boolean (.int (mI M a_6 x2.toNatClampNeg)) = true then (rzM (setI M a_10 x2.toNatClampNeg (mI M a_6 x2.toNatClampNeg)) fun M_15 => (rzD (mP M_15 a0 17) fun a_20 => (if mK M_15 a_20 = 23 then (if inA x2 (mL M_15 a_20) then (rzD (mP M_15 a0 9) fun a_24 => (if mK M_15 a_24 = 23 then (if inA x2 (mL M_15 a_24) then (if fits .boolean (.int (mI M_15 a_20 x2.toNatClampNeg)) = true then (rzM (setI M_15 a_24 x2.toNatClampNeg (mI M_15 a_20 x2.toNatClampNeg)) fun M_29 => (fM_read_95 n d C w a0 (x2 + 1) M_29)) else none) else none) else none)) else none) else none))) else none) else none) else none)) else none) else none))) else none
set_option maxRecDepth 100000 in
set_option maxHeartbeats 4000000 in
theorem tM_read_95 {n : Nat} (F : FX p s m meth c G R M0 d "HeadCountModel" bM_read 3 (some .int)) (hC : CBs l G d C) : ∀ (w : Nat) (a0 : Nat) (x2 : Int32) (M : Mem) (H : Heap) (locs : List Loc) (cells slots : Nat) (ls : Array Slot), fM_read_95 n d C w a0 x2 M = some (r, M') → RL G M0 M H locs cells slots → lv_has ls 3 [(0, .ref a0), (2, .int x2)] → W p l e R s m args below meth c H locs cells slots (CQ G below s M0 r M') (F0 m 95 ls []) := by
  obtain ⟨hx, hb, hml, hown, hrt, hlk, hex, hK, hRm⟩ := id F
  intro w
  induction w with
  | zero => intro a0 x2 M H locs cells slots ls h; cases h
  | succ w ih =>
    intro a0 x2 M H locs cells slots ls h hR hl
    rw [fM_read_95] at h
    refine lv_iload_n hx hb dM_read_95 rfl (lv_at hl 1 rfl) ?_
    refine lv_aload_n hx hb dM_read_96 rfl (lv_at hl 0 rfl) ?_
    obtain ⟨c_1, h⟩ := rz_chk h
    refine rg_getI hx hb hown hK hR hk_M 5 (by decide) kf_M_200 rfl c_1 dM_read_97 ?_
    refine lv_icmp_ge (tgt := 133) hx hb dM_read_100 (by decide) (fun c_2 => ?_) (fun c_2 => ?_)
    · replace h := rz_t c_2 h
      refine lv_aload_n hx hb dM_read_133 rfl (lv_at hl 0 rfl) ?_
      refine lv_iconst (v := 0) hx hb dM_read_134 (by decide) ?_
      obtain ⟨M_3, q_4, h⟩ := rz_m h
      refine rg_putI hx hb hown hK hR hk_M 1 (by decide) kf_M_66 rfl rfl (ty := .int) (by decide +kernel) (Or.inl rfl) rfl c_1 dM_read_135 (fun H locs hR => ?_)
      rw [← q_4] at hR
      have c_5 : mK M_3 a0 = 5 := by rw [q_4]; exact c_1
      refine lv_aload_n hx hb dM_read_138 rfl (lv_at hl 0 rfl) ?_
      refine rg_getI hx hb hown hK hR hk_M 5 (by decide) kf_M_200 rfl c_5 dM_read_139 ?_
      cases h
      exact rt_i hx hb hlk hrt (Or.inl rfl) rfl hR dM_read_142
    · replace h := rz_f c_2 h
      refine lv_aload_n hx hb dM_read_103 rfl (lv_at hl 0 rfl) ?_
      refine rg_getP hx hb hown hK hR hk_M 8 (by decide) kf_M_20 rfl c_1 dM_read_104 ?_
      refine lv_iload_n hx hb dM_read_107 rfl (lv_at hl 1 rfl) ?_
      refine lv_aload_n hx hb dM_read_108 rfl (lv_at hl 0 rfl) ?_
      refine rg_getP hx hb hown hK hR hk_M 16 (by decide) kf_M_33 rfl c_1 dM_read_109 ?_
      refine lv_iload_n hx hb dM_read_112 rfl (lv_at hl 1 rfl) ?_
      obtain ⟨a_6, e_7, h⟩ := rz_d h
      rw [e_7]
      obtain ⟨c_8, h⟩ := rz_chk h
      obtain ⟨c_9, h⟩ := rz_chk h
      refine rg_zald hx hb hK hR c_8 c_9 dM_read_113 ?_
      obtain ⟨a_10, e_11, h⟩ := rz_d h
      rw [e_11]
      obtain ⟨c_12, h⟩ := rz_chk h
      obtain ⟨c_13, h⟩ := rz_chk h
      obtain ⟨c_14, h⟩ := rz_chk h
      obtain ⟨M_15, q_16, h⟩ := rz_m h
      refine rg_zast hx hb hK hR c_12 c_13 c_14 dM_read_114 (fun H locs hR => ?_)
      rw [← q_16] at hR
      have c_17 : mK M_15 a0 = 5 := by rw [q_16]; exact c_1
      have c_18 : mK M_15 a_6 = 23 := by rw [q_16]; exact c_8
      have c_19 : mK M_15 a_10 = 23 := by rw [q_16]; exact c_12
      refine lv_aload_n hx hb dM_read_115 rfl (lv_at hl 0 rfl) ?_
      refine rg_getP hx hb hown hK hR hk_M 9 (by decide) kf_M_24 rfl c_17 dM_read_116 ?_
      refine lv_iload_n hx hb dM_read_119 rfl (lv_at hl 1 rfl) ?_
      refine lv_aload_n hx hb dM_read_120 rfl (lv_at hl 0 rfl) ?_
      refine rg_getP hx hb hown hK hR hk_M 17 (by decide) kf_M_36 rfl c_17 dM_read_121 ?_
      refine lv_iload_n hx hb dM_read_124 rfl (lv_at hl 1 rfl) ?_
      obtain ⟨a_20, e_21, h⟩ := rz_d h
      rw [e_21]
      obtain ⟨c_22, h⟩ := rz_chk h
      obtain ⟨c_23, h⟩ := rz_chk h
      refine rg_zald hx hb hK hR c_22 c_23 dM_read_125 ?_
      obtain ⟨a_24, e_25, h⟩ := rz_d h
      rw [e_25]
      obtain ⟨c_26, h⟩ := rz_chk h
      obtain ⟨c_27, h⟩ := rz_chk h
      obtain ⟨c_28, h⟩ := rz_chk h
      obtain ⟨M_29, q_30, h⟩ := rz_m h
      refine rg_zast hx hb hK hR c_26 c_27 c_28 dM_read_126 (fun H locs hR => ?_)
      rw [← q_30] at hR
      have c_31 : mK M_29 a0 = 5 := by rw [q_30]; exact c_17
      have c_32 : mK M_29 a_6 = 23 := by rw [q_30]; exact c_18
      have c_33 : mK M_29 a_10 = 23 := by rw [q_30]; exact c_19
      have c_34 : mK M_29 a_20 = 23 := by rw [q_30]; exact c_22
      have c_35 : mK M_29 a_24 = 23 := by rw [q_30]; exact c_26
      refine lv_iinc (k := 1) (v := x2 + 1) (lv' := [(2, .int (x2 + 1)), (0, .ref a0)]) hx hb dM_read_127 hl rfl (by rw [show Int32.ofInt 1 = 1 from by decide]) (by decide) rfl (fun ls hl => ?_)
      refine lv_goto (tgt := 95) hx hb dM_read_130 (by decide) ?_
      exact ih a0 (x2 + 1) _ _ _ _ _ _ h hR (lv_sub hl [1, 0] rfl)
def fM_read_55 (n d : Nat) (C : Cx) : Nat → Nat → Int32 → Mem → Rz
  | 0, _, _, _ => none
  | w + 1, a0, x2, M => if mK M a0 = 5 then (if (mI M a0 4) ≤ x2 then (fM_read_95 n d C n a0 0 M) else (rzD (mP M a0 14) fun a_3 => (if mK M a_3 = 21 then (if inA x2 (mL M a_3) then (rzD (mP M a0 6) fun a_7 => (if mK M a_7 = 21 then (if inA x2 (mL M a_7) then (rzM (setI M a_7 x2.toNatClampNeg (mI M a_3 x2.toNatClampNeg)) fun M_11 => (rzD (mP M_11 a0 15) fun a_16 => (if mK M_11 a_16 = 21 then (if inA x2 (mL M_11 a_16) then (rzD (mP M_11 a0 7) fun a_20 => (if mK M_11 a_20 = 21 then (if inA x2 (mL M_11 a_20) then (rzM (setI M_11 a_20 x2.toNatClampNeg (mI M_11 a_16 x2.toNatClampNeg)) fun M_24 => (fM_read_55 n d C w a0 (x2 + 1) M_24)) else none) else none)) else none) else none))) else none) else none)) else none) else none))) else none
set_option maxRecDepth 100000 in
set_option maxHeartbeats 4000000 in
theorem tM_read_55 {n : Nat} (F : FX p s m meth c G R M0 d "HeadCountModel" bM_read 3 (some .int)) (hC : CBs l G d C) : ∀ (w : Nat) (a0 : Nat) (x2 : Int32) (M : Mem) (H : Heap) (locs : List Loc) (cells slots : Nat) (ls : Array Slot), fM_read_55 n d C w a0 x2 M = some (r, M') → RL G M0 M H locs cells slots → lv_has ls 3 [(0, .ref a0), (2, .int x2)] → W p l e R s m args below meth c H locs cells slots (CQ G below s M0 r M') (F0 m 55 ls []) := by
  obtain ⟨hx, hb, hml, hown, hrt, hlk, hex, hK, hRm⟩ := id F
  intro w
  induction w with
  | zero => intro a0 x2 M H locs cells slots ls h; cases h
  | succ w ih =>
    intro a0 x2 M H locs cells slots ls h hR hl
    rw [fM_read_55] at h
    refine lv_iload_n hx hb dM_read_55 rfl (lv_at hl 1 rfl) ?_
    refine lv_aload_n hx hb dM_read_56 rfl (lv_at hl 0 rfl) ?_
    obtain ⟨c_1, h⟩ := rz_chk h
    refine rg_getI hx hb hown hK hR hk_M 4 (by decide) kf_M_197 rfl c_1 dM_read_57 ?_
    refine lv_icmp_ge (tgt := 93) hx hb dM_read_60 (by decide) (fun c_2 => ?_) (fun c_2 => ?_)
    · replace h := rz_t c_2 h
      refine lv_iconst (v := 0) hx hb dM_read_93 (by decide) ?_
      refine lv_istore_n (lv' := [(2, .int 0), (0, .ref a0)]) hx hb dM_read_94 rfl hl (by decide) rfl (fun ls hl => ?_)
      exact tM_read_95 F hC n a0 0 _ _ _ _ _ _ h hR (lv_sub hl [1, 0] rfl)
    · replace h := rz_f c_2 h
      refine lv_aload_n hx hb dM_read_63 rfl (lv_at hl 0 rfl) ?_
      refine rg_getP hx hb hown hK hR hk_M 6 (by decide) kf_M_13 rfl c_1 dM_read_64 ?_
      refine lv_iload_n hx hb dM_read_67 rfl (lv_at hl 1 rfl) ?_
      refine lv_aload_n hx hb dM_read_68 rfl (lv_at hl 0 rfl) ?_
      refine rg_getP hx hb hown hK hR hk_M 14 (by decide) kf_M_27 rfl c_1 dM_read_69 ?_
      refine lv_iload_n hx hb dM_read_72 rfl (lv_at hl 1 rfl) ?_
      obtain ⟨a_3, e_4, h⟩ := rz_d h
      rw [e_4]
      obtain ⟨c_5, h⟩ := rz_chk h
      obtain ⟨c_6, h⟩ := rz_chk h
      refine rg_iald hx hb hK hR c_5 c_6 dM_read_73 ?_
      obtain ⟨a_7, e_8, h⟩ := rz_d h
      rw [e_8]
      obtain ⟨c_9, h⟩ := rz_chk h
      obtain ⟨c_10, h⟩ := rz_chk h
      obtain ⟨M_11, q_12, h⟩ := rz_m h
      refine rg_iast hx hb hK hR c_9 c_10 dM_read_74 (fun H locs hR => ?_)
      rw [← q_12] at hR
      have c_13 : mK M_11 a0 = 5 := by rw [q_12]; exact c_1
      have c_14 : mK M_11 a_3 = 21 := by rw [q_12]; exact c_5
      have c_15 : mK M_11 a_7 = 21 := by rw [q_12]; exact c_9
      refine lv_aload_n hx hb dM_read_75 rfl (lv_at hl 0 rfl) ?_
      refine rg_getP hx hb hown hK hR hk_M 7 (by decide) kf_M_17 rfl c_13 dM_read_76 ?_
      refine lv_iload_n hx hb dM_read_79 rfl (lv_at hl 1 rfl) ?_
      refine lv_aload_n hx hb dM_read_80 rfl (lv_at hl 0 rfl) ?_
      refine rg_getP hx hb hown hK hR hk_M 15 (by decide) kf_M_30 rfl c_13 dM_read_81 ?_
      refine lv_iload_n hx hb dM_read_84 rfl (lv_at hl 1 rfl) ?_
      obtain ⟨a_16, e_17, h⟩ := rz_d h
      rw [e_17]
      obtain ⟨c_18, h⟩ := rz_chk h
      obtain ⟨c_19, h⟩ := rz_chk h
      refine rg_iald hx hb hK hR c_18 c_19 dM_read_85 ?_
      obtain ⟨a_20, e_21, h⟩ := rz_d h
      rw [e_21]
      obtain ⟨c_22, h⟩ := rz_chk h
      obtain ⟨c_23, h⟩ := rz_chk h
      obtain ⟨M_24, q_25, h⟩ := rz_m h
      refine rg_iast hx hb hK hR c_22 c_23 dM_read_86 (fun H locs hR => ?_)
      rw [← q_25] at hR
      have c_26 : mK M_24 a0 = 5 := by rw [q_25]; exact c_13
      have c_27 : mK M_24 a_3 = 21 := by rw [q_25]; exact c_14
      have c_28 : mK M_24 a_7 = 21 := by rw [q_25]; exact c_15
      have c_29 : mK M_24 a_16 = 21 := by rw [q_25]; exact c_18
      have c_30 : mK M_24 a_20 = 21 := by rw [q_25]; exact c_22
      refine lv_iinc (k := 1) (v := x2 + 1) (lv' := [(2, .int (x2 + 1)), (0, .ref a0)]) hx hb dM_read_87 hl rfl (by rw [show Int32.ofInt 1 = 1 from by decide]) (by decide) rfl (fun ls hl => ?_)
      refine lv_goto (tgt := 55) hx hb dM_read_90 (by decide) ?_
      exact ih a0 (x2 + 1) _ _ _ _ _ _ h hR (lv_sub hl [1, 0] rfl)
def fM_read_15 (n d : Nat) (C : Cx) (a0 : Nat) (x1 : Int32) (xs0 : Int32) (as1 : Nat) (M : Mem) : Rz := if mK M as1 = 5 then (rzM (setI M as1 0 xs0) fun M_2 => (if x1 = 0 then (some (.inl (some (.int 0)), M_2)) else (if mK M_2 a0 = 5 then (if fits .boolean (.int 1) = true then (rzM (setI M_2 a0 3 1) fun M_8 => (rzM (setI M_8 a0 4 (mI M_8 a0 12)) fun M_12 => (rzM (setI M_12 a0 5 (mI M_12 a0 13)) fun M_16 => (if fits .boolean (.int (mI M_16 a0 11)) = true then (rzM (setI M_16 a0 10 (mI M_16 a0 11)) fun M_21 => (fM_read_55 n d C n a0 0 M_21)) else none)))) else none) else none))) else none
set_option maxRecDepth 100000 in
set_option maxHeartbeats 4000000 in
theorem tM_read_15 {n : Nat} (F : FX p s m meth c G R M0 d "HeadCountModel" bM_read 3 (some .int)) (hC : CBs l G d C) : ∀ (a0 : Nat) (x1 : Int32) (xs0 : Int32) (as1 : Nat) (M : Mem) (H : Heap) (locs : List Loc) (cells slots : Nat) (ls : Array Slot), fM_read_15 n d C a0 x1 xs0 as1 M = some (r, M') → RL G M0 M H locs cells slots → lv_has ls 3 [(0, .ref a0), (1, .int x1)] → W p l e R s m args below meth c H locs cells slots (CQ G below s M0 r M') (F0 m 15 ls [.int xs0, .ref as1]) := by
  obtain ⟨hx, hb, hml, hown, hrt, hlk, hex, hK, hRm⟩ := id F
  intro a0 x1 xs0 as1 M H locs cells slots ls h hR hl
  unfold fM_read_15 at h
  obtain ⟨c_1, h⟩ := rz_chk h
  obtain ⟨M_2, q_3, h⟩ := rz_m h
  refine rg_putI hx hb hown hK hR hk_M 0 (by decide) kf_M_60 rfl rfl (ty := .int) (by decide +kernel) (Or.inl rfl) rfl c_1 dM_read_15 (fun H locs hR => ?_)
  rw [← q_3] at hR
  have c_4 : mK M_2 as1 = 5 := by rw [q_3]; exact c_1
  refine lv_iload_n hx hb dM_read_18 rfl (lv_at hl 1 rfl) ?_
  refine lv_if_ne (tgt := 24) hx hb dM_read_19 (by decide) (fun c_5 => ?_) (fun c_5 => ?_)
  · replace h := rz_f c_5 h
    refine lv_aload_n hx hb dM_read_24 rfl (lv_at hl 0 rfl) ?_
    refine lv_iconst (v := 1) hx hb dM_read_25 (by decide) ?_
    obtain ⟨c_6, h⟩ := rz_chk h
    obtain ⟨c_7, h⟩ := rz_chk h
    obtain ⟨M_8, q_9, h⟩ := rz_m h
    refine rg_putI hx hb hown hK hR hk_M 3 (by decide) kf_M_194 rfl rfl (ty := .boolean) (by decide +kernel) (Or.inr (Or.inr rfl)) c_7 c_6 dM_read_26 (fun H locs hR => ?_)
    rw [← q_9] at hR
    have c_10 : mK M_8 as1 = 5 := by rw [q_9]; exact c_4
    have c_11 : mK M_8 a0 = 5 := by rw [q_9]; exact c_6
    refine lv_aload_n hx hb dM_read_29 rfl (lv_at hl 0 rfl) ?_
    refine lv_aload_n hx hb dM_read_30 rfl (lv_at hl 0 rfl) ?_
    refine rg_getI hx hb hown hK hR hk_M 12 (by decide) kf_M_69 rfl c_11 dM_read_31 ?_
    obtain ⟨M_12, q_13, h⟩ := rz_m h
    refine rg_putI hx hb hown hK hR hk_M 4 (by decide) kf_M_197 rfl rfl (ty := .int) (by decide +kernel) (Or.inl rfl) rfl c_11 dM_read_34 (fun H locs hR => ?_)
    rw [← q_13] at hR
    have c_14 : mK M_12 as1 = 5 := by rw [q_13]; exact c_10
    have c_15 : mK M_12 a0 = 5 := by rw [q_13]; exact c_11
    refine lv_aload_n hx hb dM_read_37 rfl (lv_at hl 0 rfl) ?_
    refine lv_aload_n hx hb dM_read_38 rfl (lv_at hl 0 rfl) ?_
    refine rg_getI hx hb hown hK hR hk_M 13 (by decide) kf_M_98 rfl c_15 dM_read_39 ?_
    obtain ⟨M_16, q_17, h⟩ := rz_m h
    refine rg_putI hx hb hown hK hR hk_M 5 (by decide) kf_M_200 rfl rfl (ty := .int) (by decide +kernel) (Or.inl rfl) rfl c_15 dM_read_42 (fun H locs hR => ?_)
    rw [← q_17] at hR
    have c_18 : mK M_16 as1 = 5 := by rw [q_17]; exact c_14
    have c_19 : mK M_16 a0 = 5 := by rw [q_17]; exact c_15
    refine lv_aload_n hx hb dM_read_45 rfl (lv_at hl 0 rfl) ?_
    refine lv_aload_n hx hb dM_read_46 rfl (lv_at hl 0 rfl) ?_
    refine rg_getI hx hb hown hK hR hk_M 11 (by decide) kf_M_184 rfl c_19 dM_read_47 ?_
    obtain ⟨c_20, h⟩ := rz_chk h
    obtain ⟨M_21, q_22, h⟩ := rz_m h
    refine rg_putI hx hb hown hK hR hk_M 10 (by decide) kf_M_203 rfl rfl (ty := .boolean) (by decide +kernel) (Or.inr (Or.inr rfl)) c_20 c_19 dM_read_50 (fun H locs hR => ?_)
    rw [← q_22] at hR
    have c_23 : mK M_21 as1 = 5 := by rw [q_22]; exact c_18
    have c_24 : mK M_21 a0 = 5 := by rw [q_22]; exact c_19
    refine lv_iconst (v := 0) hx hb dM_read_53 (by decide) ?_
    refine lv_istore_n (lv' := [(2, .int 0), (0, .ref a0), (1, .int x1)]) hx hb dM_read_54 rfl hl (by decide) rfl (fun ls hl => ?_)
    exact tM_read_55 F hC n a0 0 _ _ _ _ _ _ h hR (lv_sub hl [1, 0] rfl)
  · replace h := rz_t c_5 h
    refine lv_iconst (v := 0) hx hb dM_read_22 (by decide) ?_
    cases h
    exact rt_i hx hb hlk hrt (Or.inl rfl) rfl hR dM_read_23
def fM_read_0 (n d : Nat) (C : Cx) (a0 : Nat) (M : Mem) : Rz := if mK M a0 = 5 then (rzC (C 71 [.ref a0] M) fun v_2 M_3 => (rzI v_2 fun x_6 => (if x_6 = 0 then (fM_read_15 n d C a0 x_6 1 a0 M_3) else (fM_read_15 n d C a0 x_6 0 a0 M_3)))) else none
set_option maxRecDepth 100000 in
set_option maxHeartbeats 4000000 in
theorem tM_read_0 {n : Nat} (F : FX p s m meth c G R M0 d "HeadCountModel" bM_read 3 (some .int)) (hC : CBs l G d C) : ∀ (a0 : Nat) (M : Mem) (H : Heap) (locs : List Loc) (cells slots : Nat) (ls : Array Slot), fM_read_0 n d C a0 M = some (r, M') → RL G M0 M H locs cells slots → lv_has ls 3 [(0, .ref a0)] → W p l e R s m args below meth c H locs cells slots (CQ G below s M0 r M') (F0 m 0 ls []) := by
  obtain ⟨hx, hb, hml, hown, hrt, hlk, hex, hK, hRm⟩ := id F
  intro a0 M H locs cells slots ls h hR hl
  unfold fM_read_0 at h
  refine lv_aload_n hx hb dM_read_0 rfl (lv_at hl 0 rfl) ?_
  obtain ⟨c_1, h⟩ := rz_chk h
  obtain ⟨q_5, M_3, h_4, h⟩ := rz_c h
  refine rc_V (rest := []) (As := []) hx hb (hl.1.trans hml.symm) hown hK hR hRm mfM_isSentence kl_M_190 hk_M rfl rfl c_1 (by simp [cat_rf, cat_i, cat_a, cat_l, cat_n]) (hC 71 _ _ _ _ h_4) dM_read_1 (fun v1 H locs cells slots ev hR => ?_) (fun x1 q1 ce1 H locs cells slots ex hR g1 g2 g3 => ?_)
  · rcases h with ⟨v_2, ev2, h⟩ | ⟨e2, ee2, -⟩
    · cases ev.symm.trans ev2
      replace h := rz_i h
      obtain ⟨x_6, rfl, h⟩ := h
      dsimp only [Option.toList, List.cons_append, List.nil_append]
      refine lv_istore_n (lv' := [(1, .int x_6), (0, .ref a0)]) hx hb dM_read_4 rfl hl (by decide) rfl (fun ls hl => ?_)
      refine lv_aload_n hx hb dM_read_5 rfl (lv_at hl 1 rfl) ?_
      refine lv_iload_n hx hb dM_read_6 rfl (lv_at hl 0 rfl) ?_
      refine lv_if_eq (tgt := 14) hx hb dM_read_7 (by decide) (fun c_7 => ?_) (fun c_7 => ?_)
      · replace h := rz_t c_7 h
        refine lv_iconst (v := 1) hx hb dM_read_14 (by decide) ?_
        exact tM_read_15 F hC a0 x_6 1 a0 _ _ _ _ _ _ h hR (lv_sub hl [1, 0] rfl)
      · replace h := rz_f c_7 h
        refine lv_iconst (v := 0) hx hb dM_read_10 (by decide) ?_
        refine lv_goto (tgt := 15) hx hb dM_read_11 (by decide) ?_
        exact tM_read_15 F hC a0 x_6 0 a0 _ _ _ _ _ _ h hR (lv_sub hl [1, 0] rfl)
    · cases ev.symm.trans ee2
  · rcases h with ⟨v2, ev2, -⟩ | ⟨e2, ee2, h⟩
    · cases ex.symm.trans ev2
    · cases ex.symm.trans ee2
      cases h
      exact rt_x hlk hex hR g1 g2 g3
set_option maxRecDepth 100000 in
set_option maxHeartbeats 4000000 in
theorem sM_read {l : Launch} {G : Gx} {n d : Nat} {C : Cx} (hC : CBs l G d C) (a0 : Nat) {M M' : Mem} {r : Option Value ⊕ Nat} (h : fM_read_0 n d C a0 M = some (r, M')) : CB l G (d + 1) yM_read [.ref a0] M r M' := by
  intro p e R s m below meth c hx hn hm hc hlk hK hR hcap hS hU hfr hlo hrc hrs
  obtain ⟨hb, hml, hrt, hex, hown⟩ := fx_of hn hm hc (hK.w mfM_read.2.2.1 rfl #[])
  have F : FX p s m meth c G R M d "HeadCountModel" bM_read 3 (some .int) := ⟨hx, hb, hml, hown, hrt, hlk, hex, hK, hfr, hlo, by rw [← hcap]; exact hrc, hrs⟩
  rw [hml]
  have hl := lv_entry ([.ref a0]) (n := 3) (by simp [lg_sl, cat_rf, cat_i, cat_a, cat_l, cat_n])
  rw [lg_entry_eq]
  generalize (lg_sl ([.ref a0]) ++ List.replicate (3 - (lg_sl ([.ref a0])).length) Slot.unset).toArray = ls at hl ⊢
  have hl : lv_has ls 3 [(0, .ref a0)] := by simpa [lv_args, cat_rf, cat_i, cat_a, cat_l, cat_n] using hl
  exact tM_read_0 F hC a0 _ _ _ _ _ _ h (RL.start hR hcap hS hU) (lv_sub hl [0] rfl)
def fM_isSentence_128 (n d : Nat) (C : Cx) (k55 : Nat → Int32 → Int32 → Mem → Rz) (a0 : Nat) (x1 : Int32) (x2 : Int32) (M : Mem) : Rz := k55 a0 x1 (x2 + 1) M
set_option maxRecDepth 100000 in
set_option maxHeartbeats 4000000 in
theorem tM_isSentence_128 {n : Nat} {k55 : Nat → Int32 → Int32 → Mem → Rz} (F : FX p s m meth c G R M0 d "HeadCountModel" bM_isSentence 4 (some .boolean)) (hC : CBs l G d C) (hk55 : ∀ (a0 : Nat) (x1 : Int32) (x2 : Int32) (M : Mem) (H : Heap) (locs : List Loc) (cells slots : Nat) (ls : Array Slot), k55 a0 x1 x2 M = some (r, M') → RL G M0 M H locs cells slots → lv_has ls 4 [(0, .ref a0), (1, .int x1), (2, .int x2)] → W p l e R s m args below meth c H locs cells slots (CQ G below s M0 r M') (F0 m 55 ls [])) : ∀ (a0 : Nat) (x1 : Int32) (x2 : Int32) (M : Mem) (H : Heap) (locs : List Loc) (cells slots : Nat) (ls : Array Slot), fM_isSentence_128 n d C k55 a0 x1 x2 M = some (r, M') → RL G M0 M H locs cells slots → lv_has ls 4 [(0, .ref a0), (1, .int x1), (2, .int x2)] → W p l e R s m args below meth c H locs cells slots (CQ G below s M0 r M') (F0 m 128 ls []) := by
  obtain ⟨hx, hb, hml, hown, hrt, hlk, hex, hK, hRm⟩ := id F
  intro a0 x1 x2 M H locs cells slots ls h hR hl
  unfold fM_isSentence_128 at h
  refine lv_iinc (k := 2) (v := x2 + 1) (lv' := [(2, .int (x2 + 1)), (0, .ref a0), (1, .int x1)]) hx hb dM_isSentence_128 hl rfl (by rw [show Int32.ofInt 1 = 1 from by decide]) (by decide) rfl (fun ls hl => ?_)
  refine lv_goto (tgt := 55) hx hb dM_isSentence_131 (by decide) ?_
  exact hk55 a0 x1 (x2 + 1) _ _ _ _ _ _ h hR (lv_sub hl [1, 2, 0] rfl)
def fM_isSentence_114 (n d : Nat) (C : Cx) (k55 : Nat → Int32 → Int32 → Mem → Rz) (a0 : Nat) (x2 : Int32) (x3 : Int32) (xs0 : Int32) (as1 : Nat) (M : Mem) : Rz := if mK M as1 = 5 then (if fits .boolean (.int xs0) = true then (rzM (setI M as1 11 xs0) fun M_3 => (if mK M_3 a0 = 5 then (rzC (C 72 [.ref a0, .int x3] M_3) fun v_7 M_8 => (rzI v_7 fun x_11 => (if mK M_8 a0 = 5 then (rzM (setI M_8 a0 18 x_11) fun M_13 => (fM_isSentence_128 n d C k55 a0 0 x2 M_13)) else none))) else none)) else none) else none
set_option maxRecDepth 100000 in
set_option maxHeartbeats 4000000 in
theorem tM_isSentence_114 {n : Nat} {k55 : Nat → Int32 → Int32 → Mem → Rz} (F : FX p s m meth c G R M0 d "HeadCountModel" bM_isSentence 4 (some .boolean)) (hC : CBs l G d C) (hk55 : ∀ (a0 : Nat) (x1 : Int32) (x2 : Int32) (M : Mem) (H : Heap) (locs : List Loc) (cells slots : Nat) (ls : Array Slot), k55 a0 x1 x2 M = some (r, M') → RL G M0 M H locs cells slots → lv_has ls 4 [(0, .ref a0), (1, .int x1), (2, .int x2)] → W p l e R s m args below meth c H locs cells slots (CQ G below s M0 r M') (F0 m 55 ls [])) : ∀ (a0 : Nat) (x2 : Int32) (x3 : Int32) (xs0 : Int32) (as1 : Nat) (M : Mem) (H : Heap) (locs : List Loc) (cells slots : Nat) (ls : Array Slot), fM_isSentence_114 n d C k55 a0 x2 x3 xs0 as1 M = some (r, M') → RL G M0 M H locs cells slots → lv_has ls 4 [(0, .ref a0), (2, .int x2), (3, .int x3)] → W p l e R s m args below meth c H locs cells slots (CQ G below s M0 r M') (F0 m 114 ls [.int xs0, .ref as1]) := by
  obtain ⟨hx, hb, hml, hown, hrt, hlk, hex, hK, hRm⟩ := id F
  intro a0 x2 x3 xs0 as1 M H locs cells slots ls h hR hl
  unfold fM_isSentence_114 at h
  obtain ⟨c_1, h⟩ := rz_chk h
  obtain ⟨c_2, h⟩ := rz_chk h
  obtain ⟨M_3, q_4, h⟩ := rz_m h
  refine rg_putI hx hb hown hK hR hk_M 11 (by decide) kf_M_184 rfl rfl (ty := .boolean) (by decide +kernel) (Or.inr (Or.inr rfl)) c_2 c_1 dM_isSentence_114 (fun H locs hR => ?_)
  rw [← q_4] at hR
  have c_5 : mK M_3 as1 = 5 := by rw [q_4]; exact c_1
  refine lv_iconst (v := 0) hx hb dM_isSentence_117 (by decide) ?_
  refine lv_istore_n (lv' := [(1, .int 0), (0, .ref a0), (2, .int x2), (3, .int x3)]) hx hb dM_isSentence_118 rfl hl (by decide) rfl (fun ls hl => ?_)
  refine lv_aload_n hx hb dM_isSentence_119 rfl (lv_at hl 1 rfl) ?_
  refine lv_aload_n hx hb dM_isSentence_120 rfl (lv_at hl 1 rfl) ?_
  refine lv_iload_n hx hb dM_isSentence_121 rfl (lv_at hl 3 rfl) ?_
  obtain ⟨c_6, h⟩ := rz_chk h
  obtain ⟨q_10, M_8, h_9, h⟩ := rz_c h
  refine rc_V (rest := [.ref a0]) (As := [.int x3]) hx hb (hl.1.trans hml.symm) hown hK hR hRm mfM_next kl_M_187 hk_M rfl rfl c_6 (by simp [cat_rf, cat_i, cat_a, cat_l, cat_n]) (hC 72 _ _ _ _ h_9) dM_isSentence_122 (fun v1 H locs cells slots ev hR => ?_) (fun x1 q1 ce1 H locs cells slots ex hR g1 g2 g3 => ?_)
  · rcases h with ⟨v_7, ev2, h⟩ | ⟨e2, ee2, -⟩
    · cases ev.symm.trans ev2
      replace h := rz_i h
      obtain ⟨x_11, rfl, h⟩ := h
      dsimp only [Option.toList, List.cons_append, List.nil_append]
      obtain ⟨c_12, h⟩ := rz_chk h
      obtain ⟨M_13, q_14, h⟩ := rz_m h
      refine rg_putI hx hb hown hK hR hk_M 18 (by decide) kf_M_166 rfl rfl (ty := .int) (by decide +kernel) (Or.inl rfl) rfl c_12 dM_isSentence_125 (fun H locs hR => ?_)
      rw [← q_14] at hR
      have c_15 : mK M_13 a0 = 5 := by rw [q_14]; exact c_12
      exact tM_isSentence_128 F hC hk55 a0 0 x2 _ _ _ _ _ _ h hR (lv_sub hl [1, 0, 2] rfl)
    · cases ev.symm.trans ee2
  · rcases h with ⟨v2, ev2, -⟩ | ⟨e2, ee2, h⟩
    · cases ex.symm.trans ev2
    · cases ex.symm.trans ee2
      cases h
      exact rt_x hlk hex hR g1 g2 g3
def fM_isSentence_102 (n d : Nat) (C : Cx) (k55 : Nat → Int32 → Int32 → Mem → Rz) (a0 : Nat) (x2 : Int32) (x3 : Int32) (as0 : Nat) (M : Mem) : Rz := fM_isSentence_114 n d C k55 a0 x2 x3 1 as0 M
set_option maxRecDepth 100000 in
set_option maxHeartbeats 4000000 in
theorem tM_isSentence_102 {n : Nat} {k55 : Nat → Int32 → Int32 → Mem → Rz} (F : FX p s m meth c G R M0 d "HeadCountModel" bM_isSentence 4 (some .boolean)) (hC : CBs l G d C) (hk55 : ∀ (a0 : Nat) (x1 : Int32) (x2 : Int32) (M : Mem) (H : Heap) (locs : List Loc) (cells slots : Nat) (ls : Array Slot), k55 a0 x1 x2 M = some (r, M') → RL G M0 M H locs cells slots → lv_has ls 4 [(0, .ref a0), (1, .int x1), (2, .int x2)] → W p l e R s m args below meth c H locs cells slots (CQ G below s M0 r M') (F0 m 55 ls [])) : ∀ (a0 : Nat) (x2 : Int32) (x3 : Int32) (as0 : Nat) (M : Mem) (H : Heap) (locs : List Loc) (cells slots : Nat) (ls : Array Slot), fM_isSentence_102 n d C k55 a0 x2 x3 as0 M = some (r, M') → RL G M0 M H locs cells slots → lv_has ls 4 [(0, .ref a0), (2, .int x2), (3, .int x3)] → W p l e R s m args below meth c H locs cells slots (CQ G below s M0 r M') (F0 m 102 ls [.ref as0]) := by
  obtain ⟨hx, hb, hml, hown, hrt, hlk, hex, hK, hRm⟩ := id F
  intro a0 x2 x3 as0 M H locs cells slots ls h hR hl
  unfold fM_isSentence_102 at h
  refine lv_iconst (v := 1) hx hb dM_isSentence_102 (by decide) ?_
  refine lv_goto (tgt := 114) hx hb dM_isSentence_103 (by decide) ?_
  exact tM_isSentence_114 F hC hk55 a0 x2 x3 1 as0 _ _ _ _ _ _ h hR (lv_sub hl [0, 1, 2] rfl)
def fM_isSentence_213 (n d : Nat) (C : Cx) (xs0 : Int32) (M : Mem) : Rz := if fits .boolean (.int xs0) = true then (some (.inl (some (.int xs0)), M)) else none
set_option maxRecDepth 100000 in
set_option maxHeartbeats 4000000 in
theorem tM_isSentence_213 {n : Nat} (F : FX p s m meth c G R M0 d "HeadCountModel" bM_isSentence 4 (some .boolean)) (hC : CBs l G d C) : ∀ (xs0 : Int32) (M : Mem) (H : Heap) (locs : List Loc) (cells slots : Nat) (ls : Array Slot), fM_isSentence_213 n d C xs0 M = some (r, M') → RL G M0 M H locs cells slots → lv_has ls 4 [] → W p l e R s m args below meth c H locs cells slots (CQ G below s M0 r M') (F0 m 213 ls [.int xs0]) := by
  obtain ⟨hx, hb, hml, hown, hrt, hlk, hex, hK, hRm⟩ := id F
  intro xs0 M H locs cells slots ls h hR hl
  unfold fM_isSentence_213 at h
  obtain ⟨c_1, h⟩ := rz_chk h
  cases h
  exact rt_i hx hb hlk hrt (Or.inr (Or.inr rfl)) c_1 hR dM_isSentence_213
def fM_isSentence_185 (n d : Nat) (C : Cx) (a0 : Nat) (M : Mem) : Rz := if mK M a0 = 5 then (if (mI M a0 18) = 1 then (rzC (C 84 [.ref a0, .int 2, .int 1] M) fun v_3 M_4 => (rzV v_3 (if mK M_4 a0 = 5 then (if (mI M_4 a0 19) = 0 then (fM_isSentence_213 n d C 1 M_4) else (fM_isSentence_213 n d C 0 M_4)) else none))) else (if fits .boolean (.int 0) = true then (some (.inl (some (.int 0)), M)) else none)) else none
set_option maxRecDepth 100000 in
set_option maxHeartbeats 4000000 in
theorem tM_isSentence_185 {n : Nat} (F : FX p s m meth c G R M0 d "HeadCountModel" bM_isSentence 4 (some .boolean)) (hC : CBs l G d C) : ∀ (a0 : Nat) (M : Mem) (H : Heap) (locs : List Loc) (cells slots : Nat) (ls : Array Slot), fM_isSentence_185 n d C a0 M = some (r, M') → RL G M0 M H locs cells slots → lv_has ls 4 [(0, .ref a0)] → W p l e R s m args below meth c H locs cells slots (CQ G below s M0 r M') (F0 m 185 ls []) := by
  obtain ⟨hx, hb, hml, hown, hrt, hlk, hex, hK, hRm⟩ := id F
  intro a0 M H locs cells slots ls h hR hl
  unfold fM_isSentence_185 at h
  refine lv_aload_n hx hb dM_isSentence_185 rfl (lv_at hl 0 rfl) ?_
  obtain ⟨c_1, h⟩ := rz_chk h
  refine rg_getI hx hb hown hK hR hk_M 18 (by decide) kf_M_166 rfl c_1 dM_isSentence_186 ?_
  refine lv_iconst (v := 1) hx hb dM_isSentence_189 (by decide) ?_
  refine lv_icmp_eq (tgt := 195) hx hb dM_isSentence_190 (by decide) (fun c_2 => ?_) (fun c_2 => ?_)
  · replace h := rz_t c_2 h
    refine lv_aload_n hx hb dM_isSentence_195 rfl (lv_at hl 0 rfl) ?_
    refine lv_iconst (v := 2) hx hb dM_isSentence_196 (by decide) ?_
    refine lv_iconst (v := 1) hx hb dM_isSentence_197 (by decide) ?_
    obtain ⟨q_6, M_4, h_5, h⟩ := rz_c h
    refine rc_V (rest := []) (As := [.int 2, .int 1]) hx hb (hl.1.trans hml.symm) hown hK hR hRm mfM_settle kl_M_114 hk_M rfl rfl c_1 (by simp [cat_rf, cat_i, cat_a, cat_l, cat_n]) (hC 84 _ _ _ _ h_5) dM_isSentence_198 (fun v1 H locs cells slots ev hR => ?_) (fun x1 q1 ce1 H locs cells slots ex hR g1 g2 g3 => ?_)
    · rcases h with ⟨v_3, ev2, h⟩ | ⟨e2, ee2, -⟩
      · cases ev.symm.trans ev2
        replace h := rz_v h
        obtain ⟨rfl, h⟩ := h
        dsimp only [Option.toList, List.cons_append, List.nil_append]
        refine lv_aload_n hx hb dM_isSentence_201 rfl (lv_at hl 0 rfl) ?_
        obtain ⟨c_7, h⟩ := rz_chk h
        refine rg_getI hx hb hown hK hR hk_M 19 (by decide) kf_M_72 rfl c_7 dM_isSentence_202 ?_
        refine lv_if_ne (tgt := 212) hx hb dM_isSentence_205 (by decide) (fun c_8 => ?_) (fun c_8 => ?_)
        · replace h := rz_f c_8 h
          refine lv_iconst (v := 0) hx hb dM_isSentence_212 (by decide) ?_
          exact tM_isSentence_213 F hC 0 _ _ _ _ _ _ h hR (lv_sub hl [] rfl)
        · replace h := rz_t c_8 h
          refine lv_iconst (v := 1) hx hb dM_isSentence_208 (by decide) ?_
          refine lv_goto (tgt := 213) hx hb dM_isSentence_209 (by decide) ?_
          exact tM_isSentence_213 F hC 1 _ _ _ _ _ _ h hR (lv_sub hl [] rfl)
      · cases ev.symm.trans ee2
    · rcases h with ⟨v2, ev2, -⟩ | ⟨e2, ee2, h⟩
      · cases ex.symm.trans ev2
      · cases ex.symm.trans ee2
        cases h
        exact rt_x hlk hex hR g1 g2 g3
  · replace h := rz_f c_2 h
    refine lv_iconst (v := 0) hx hb dM_isSentence_193 (by decide) ?_
    obtain ⟨c_9, h⟩ := rz_chk h
    cases h
    exact rt_i hx hb hlk hrt (Or.inr (Or.inr rfl)) c_9 hR dM_isSentence_194
def fM_isSentence_182 (n d : Nat) (C : Cx) (a0 : Nat) (xs0 : Int32) (as1 : Nat) (M : Mem) : Rz := if mK M as1 = 5 then (rzM (setI M as1 18 xs0) fun M_2 => (fM_isSentence_185 n d C a0 M_2)) else none
set_option maxRecDepth 100000 in
set_option maxHeartbeats 4000000 in
theorem tM_isSentence_182 {n : Nat} (F : FX p s m meth c G R M0 d "HeadCountModel" bM_isSentence 4 (some .boolean)) (hC : CBs l G d C) : ∀ (a0 : Nat) (xs0 : Int32) (as1 : Nat) (M : Mem) (H : Heap) (locs : List Loc) (cells slots : Nat) (ls : Array Slot), fM_isSentence_182 n d C a0 xs0 as1 M = some (r, M') → RL G M0 M H locs cells slots → lv_has ls 4 [(0, .ref a0)] → W p l e R s m args below meth c H locs cells slots (CQ G below s M0 r M') (F0 m 182 ls [.int xs0, .ref as1]) := by
  obtain ⟨hx, hb, hml, hown, hrt, hlk, hex, hK, hRm⟩ := id F
  intro a0 xs0 as1 M H locs cells slots ls h hR hl
  unfold fM_isSentence_182 at h
  obtain ⟨c_1, h⟩ := rz_chk h
  obtain ⟨M_2, q_3, h⟩ := rz_m h
  refine rg_putI hx hb hown hK hR hk_M 18 (by decide) kf_M_166 rfl rfl (ty := .int) (by decide +kernel) (Or.inl rfl) rfl c_1 dM_isSentence_182 (fun H locs hR => ?_)
  rw [← q_3] at hR
  have c_4 : mK M_2 as1 = 5 := by rw [q_3]; exact c_1
  exact tM_isSentence_185 F hC a0 _ _ _ _ _ _ h hR (lv_sub hl [0] rfl)
def fM_isSentence_163 (n d : Nat) (C : Cx) (a0 : Nat) (xs0 : Int32) (M : Mem) : Rz := if mK M a0 = 5 then (rzC (C 72 [.ref a0, .int 32] M) fun v_2 M_3 => (rzI v_2 fun x_6 => (if xs0 = 0 then (fM_isSentence_182 n d C a0 10 a0 M_3) else (fM_isSentence_182 n d C a0 1 a0 M_3)))) else none
set_option maxRecDepth 100000 in
set_option maxHeartbeats 4000000 in
theorem tM_isSentence_163 {n : Nat} (F : FX p s m meth c G R M0 d "HeadCountModel" bM_isSentence 4 (some .boolean)) (hC : CBs l G d C) : ∀ (a0 : Nat) (xs0 : Int32) (M : Mem) (H : Heap) (locs : List Loc) (cells slots : Nat) (ls : Array Slot), fM_isSentence_163 n d C a0 xs0 M = some (r, M') → RL G M0 M H locs cells slots → lv_has ls 4 [(0, .ref a0)] → W p l e R s m args below meth c H locs cells slots (CQ G below s M0 r M') (F0 m 163 ls [.int xs0]) := by
  obtain ⟨hx, hb, hml, hown, hrt, hlk, hex, hK, hRm⟩ := id F
  intro a0 xs0 M H locs cells slots ls h hR hl
  unfold fM_isSentence_163 at h
  refine lv_istore_n (lv' := [(2, .int xs0), (0, .ref a0)]) hx hb dM_isSentence_163 rfl hl (by decide) rfl (fun ls hl => ?_)
  refine lv_aload_n hx hb dM_isSentence_164 rfl (lv_at hl 1 rfl) ?_
  refine lv_bipush (v := 32) hx hb dM_isSentence_165 (by decide) ?_
  obtain ⟨c_1, h⟩ := rz_chk h
  obtain ⟨q_5, M_3, h_4, h⟩ := rz_c h
  refine rc_V (rest := []) (As := [.int 32]) hx hb (hl.1.trans hml.symm) hown hK hR hRm mfM_next kl_M_187 hk_M rfl rfl c_1 (by simp [cat_rf, cat_i, cat_a, cat_l, cat_n]) (hC 72 _ _ _ _ h_4) dM_isSentence_167 (fun v1 H locs cells slots ev hR => ?_) (fun x1 q1 ce1 H locs cells slots ex hR g1 g2 g3 => ?_)
  · rcases h with ⟨v_2, ev2, h⟩ | ⟨e2, ee2, -⟩
    · cases ev.symm.trans ev2
      replace h := rz_i h
      obtain ⟨x_6, rfl, h⟩ := h
      dsimp only [Option.toList, List.cons_append, List.nil_append]
      refine lv_pop hx hb dM_isSentence_170 rfl ?_
      refine lv_aload_n hx hb dM_isSentence_171 rfl (lv_at hl 1 rfl) ?_
      refine lv_iload_n hx hb dM_isSentence_172 rfl (lv_at hl 0 rfl) ?_
      refine lv_if_eq (tgt := 180) hx hb dM_isSentence_173 (by decide) (fun c_7 => ?_) (fun c_7 => ?_)
      · replace h := rz_t c_7 h
        refine lv_bipush (v := 10) hx hb dM_isSentence_180 (by decide) ?_
        exact tM_isSentence_182 F hC a0 10 a0 _ _ _ _ _ _ h hR (lv_sub hl [1] rfl)
      · replace h := rz_f c_7 h
        refine lv_iconst (v := 1) hx hb dM_isSentence_176 (by decide) ?_
        refine lv_goto (tgt := 182) hx hb dM_isSentence_177 (by decide) ?_
        exact tM_isSentence_182 F hC a0 1 a0 _ _ _ _ _ _ h hR (lv_sub hl [1] rfl)
    · cases ev.symm.trans ee2
  · rcases h with ⟨v2, ev2, -⟩ | ⟨e2, ee2, h⟩
    · cases ex.symm.trans ev2
    · cases ex.symm.trans ee2
      cases h
      exact rt_x hlk hex hR g1 g2 g3
def fM_isSentence_151 (n d : Nat) (C : Cx) (a0 : Nat) (M : Mem) : Rz := if mK M a0 = 5 then (if (mI M a0 33) ≤ 0 then (fM_isSentence_163 n d C a0 0 M) else (fM_isSentence_163 n d C a0 1 M)) else none
set_option maxRecDepth 100000 in
set_option maxHeartbeats 4000000 in
theorem tM_isSentence_151 {n : Nat} (F : FX p s m meth c G R M0 d "HeadCountModel" bM_isSentence 4 (some .boolean)) (hC : CBs l G d C) : ∀ (a0 : Nat) (M : Mem) (H : Heap) (locs : List Loc) (cells slots : Nat) (ls : Array Slot), fM_isSentence_151 n d C a0 M = some (r, M') → RL G M0 M H locs cells slots → lv_has ls 4 [(0, .ref a0)] → W p l e R s m args below meth c H locs cells slots (CQ G below s M0 r M') (F0 m 151 ls []) := by
  obtain ⟨hx, hb, hml, hown, hrt, hlk, hex, hK, hRm⟩ := id F
  intro a0 M H locs cells slots ls h hR hl
  unfold fM_isSentence_151 at h
  refine lv_aload_n hx hb dM_isSentence_151 rfl (lv_at hl 0 rfl) ?_
  obtain ⟨c_1, h⟩ := rz_chk h
  refine rg_getI hx hb hown hK hR hk_M 33 (by decide) kf_M_101 rfl c_1 dM_isSentence_152 ?_
  refine lv_if_le (tgt := 162) hx hb dM_isSentence_155 (by decide) (fun c_2 => ?_) (fun c_2 => ?_)
  · replace h := rz_t c_2 h
    refine lv_iconst (v := 0) hx hb dM_isSentence_162 (by decide) ?_
    exact tM_isSentence_163 F hC a0 0 _ _ _ _ _ _ h hR (lv_sub hl [0] rfl)
  · replace h := rz_f c_2 h
    refine lv_iconst (v := 1) hx hb dM_isSentence_158 (by decide) ?_
    refine lv_goto (tgt := 163) hx hb dM_isSentence_159 (by decide) ?_
    exact tM_isSentence_163 F hC a0 1 _ _ _ _ _ _ h hR (lv_sub hl [0] rfl)
def fM_isSentence_134 (n d : Nat) (C : Cx) (a0 : Nat) (M : Mem) : Rz := if mK M a0 = 5 then (if (mI M a0 18) = 5 then (fM_isSentence_151 n d C a0 M) else (if (mI M a0 18) = 7 then (fM_isSentence_151 n d C a0 M) else (fM_isSentence_185 n d C a0 M))) else none
set_option maxRecDepth 100000 in
set_option maxHeartbeats 4000000 in
theorem tM_isSentence_134 {n : Nat} (F : FX p s m meth c G R M0 d "HeadCountModel" bM_isSentence 4 (some .boolean)) (hC : CBs l G d C) : ∀ (a0 : Nat) (M : Mem) (H : Heap) (locs : List Loc) (cells slots : Nat) (ls : Array Slot), fM_isSentence_134 n d C a0 M = some (r, M') → RL G M0 M H locs cells slots → lv_has ls 4 [(0, .ref a0)] → W p l e R s m args below meth c H locs cells slots (CQ G below s M0 r M') (F0 m 134 ls []) := by
  obtain ⟨hx, hb, hml, hown, hrt, hlk, hex, hK, hRm⟩ := id F
  intro a0 M H locs cells slots ls h hR hl
  unfold fM_isSentence_134 at h
  refine lv_aload_n hx hb dM_isSentence_134 rfl (lv_at hl 0 rfl) ?_
  obtain ⟨c_1, h⟩ := rz_chk h
  refine rg_getI hx hb hown hK hR hk_M 18 (by decide) kf_M_166 rfl c_1 dM_isSentence_135 ?_
  refine lv_iconst (v := 5) hx hb dM_isSentence_138 (by decide) ?_
  refine lv_icmp_eq (tgt := 151) hx hb dM_isSentence_139 (by decide) (fun c_2 => ?_) (fun c_2 => ?_)
  · replace h := rz_t c_2 h
    exact tM_isSentence_151 F hC a0 _ _ _ _ _ _ h hR (lv_sub hl [0] rfl)
  · replace h := rz_f c_2 h
    refine lv_aload_n hx hb dM_isSentence_142 rfl (lv_at hl 0 rfl) ?_
    refine rg_getI hx hb hown hK hR hk_M 18 (by decide) kf_M_166 rfl c_1 dM_isSentence_143 ?_
    refine lv_bipush (v := 7) hx hb dM_isSentence_146 (by decide) ?_
    refine lv_icmp_ne (tgt := 185) hx hb dM_isSentence_148 (by decide) (fun c_3 => ?_) (fun c_3 => ?_)
    · replace h := rz_f c_3 h
      exact tM_isSentence_185 F hC a0 _ _ _ _ _ _ h hR (lv_sub hl [0] rfl)
    · replace h := rz_t c_3 h
      exact tM_isSentence_151 F hC a0 _ _ _ _ _ _ h hR (lv_sub hl [0] rfl)
def fM_isSentence_55 (n d : Nat) (C : Cx) : Nat → Nat → Int32 → Int32 → Mem → Rz
  | 0, _, _, _, _ => none
  | w + 1, a0, x1, x2, M => if mK M a0 = 5 then (if (mI M a0 1) ≤ x2 then (fM_isSentence_134 n d C a0 M) else (if (mI M a0 18) = 10 then (fM_isSentence_134 n d C a0 M) else (rzD (mP M a0 2) fun a_4 => (if mK M a_4 = 22 then (if inA x2 (mL M a_4) then (if (mI M a_4 x2.toNatClampNeg) = 32 then (fM_isSentence_128 n d C (fM_isSentence_55 n d C w) a0 x1 x2 M) else (if x1 = 0 then (fM_isSentence_114 n d C (fM_isSentence_55 n d C w) a0 x2 (mI M a_4 x2.toNatClampNeg) (mI M a0 11) a0 M) else (if (mI M a_4 x2.toNatClampNeg) = 65 then (fM_isSentence_102 n d C (fM_isSentence_55 n d C w) a0 x2 (mI M a_4 x2.toNatClampNeg) a0 M) else (if (mI M a_4 x2.toNatClampNeg) = 69 then (fM_isSentence_102 n d C (fM_isSentence_55 n d C w) a0 x2 (mI M a_4 x2.toNatClampNeg) a0 M) else (fM_isSentence_114 n d C (fM_isSentence_55 n d C w) a0 x2 (mI M a_4 x2.toNatClampNeg) 0 a0 M))))) else none) else none)))) else none
set_option maxRecDepth 100000 in
set_option maxHeartbeats 4000000 in
theorem tM_isSentence_55 {n : Nat} (F : FX p s m meth c G R M0 d "HeadCountModel" bM_isSentence 4 (some .boolean)) (hC : CBs l G d C) : ∀ (w : Nat) (a0 : Nat) (x1 : Int32) (x2 : Int32) (M : Mem) (H : Heap) (locs : List Loc) (cells slots : Nat) (ls : Array Slot), fM_isSentence_55 n d C w a0 x1 x2 M = some (r, M') → RL G M0 M H locs cells slots → lv_has ls 4 [(0, .ref a0), (1, .int x1), (2, .int x2)] → W p l e R s m args below meth c H locs cells slots (CQ G below s M0 r M') (F0 m 55 ls []) := by
  obtain ⟨hx, hb, hml, hown, hrt, hlk, hex, hK, hRm⟩ := id F
  intro w
  induction w with
  | zero => intro a0 x1 x2 M H locs cells slots ls h; cases h
  | succ w ih =>
    intro a0 x1 x2 M H locs cells slots ls h hR hl
    rw [fM_isSentence_55] at h
    refine lv_iload_n hx hb dM_isSentence_55 rfl (lv_at hl 2 rfl) ?_
    refine lv_aload_n hx hb dM_isSentence_56 rfl (lv_at hl 0 rfl) ?_
    obtain ⟨c_1, h⟩ := rz_chk h
    refine rg_getI hx hb hown hK hR hk_M 1 (by decide) kf_M_66 rfl c_1 dM_isSentence_57 ?_
    refine lv_icmp_ge (tgt := 134) hx hb dM_isSentence_60 (by decide) (fun c_2 => ?_) (fun c_2 => ?_)
    · replace h := rz_t c_2 h
      exact tM_isSentence_134 F hC a0 _ _ _ _ _ _ h hR (lv_sub hl [0] rfl)
    · replace h := rz_f c_2 h
      refine lv_aload_n hx hb dM_isSentence_63 rfl (lv_at hl 0 rfl) ?_
      refine rg_getI hx hb hown hK hR hk_M 18 (by decide) kf_M_166 rfl c_1 dM_isSentence_64 ?_
      refine lv_bipush (v := 10) hx hb dM_isSentence_67 (by decide) ?_
      refine lv_icmp_eq (tgt := 134) hx hb dM_isSentence_69 (by decide) (fun c_3 => ?_) (fun c_3 => ?_)
      · replace h := rz_t c_3 h
        exact tM_isSentence_134 F hC a0 _ _ _ _ _ _ h hR (lv_sub hl [0] rfl)
      · replace h := rz_f c_3 h
        refine lv_aload_n hx hb dM_isSentence_72 rfl (lv_at hl 0 rfl) ?_
        refine rg_getP hx hb hown hK hR hk_M 2 (by decide) kf_M_7 rfl c_1 dM_isSentence_73 ?_
        refine lv_iload_n hx hb dM_isSentence_76 rfl (lv_at hl 2 rfl) ?_
        obtain ⟨a_4, e_5, h⟩ := rz_d h
        rw [e_5]
        obtain ⟨c_6, h⟩ := rz_chk h
        obtain ⟨c_7, h⟩ := rz_chk h
        refine rg_cald hx hb hK hR c_6 c_7 dM_isSentence_77 ?_
        refine lv_istore_n (lv' := [(3, .int (mI M a_4 x2.toNatClampNeg)), (0, .ref a0), (1, .int x1), (2, .int x2)]) hx hb dM_isSentence_78 rfl hl (by decide) rfl (fun ls hl => ?_)
        refine lv_iload_n hx hb dM_isSentence_79 rfl (lv_at hl 0 rfl) ?_
        refine lv_bipush (v := 32) hx hb dM_isSentence_80 (by decide) ?_
        refine lv_icmp_eq (tgt := 128) hx hb dM_isSentence_82 (by decide) (fun c_8 => ?_) (fun c_8 => ?_)
        · replace h := rz_t c_8 h
          exact tM_isSentence_128 F hC ih a0 x1 x2 _ _ _ _ _ _ h hR (lv_sub hl [1, 2, 3] rfl)
        · replace h := rz_f c_8 h
          refine lv_aload_n hx hb dM_isSentence_85 rfl (lv_at hl 1 rfl) ?_
          refine lv_iload_n hx hb dM_isSentence_86 rfl (lv_at hl 2 rfl) ?_
          refine lv_if_eq (tgt := 110) hx hb dM_isSentence_87 (by decide) (fun c_9 => ?_) (fun c_9 => ?_)
          · replace h := rz_t c_9 h
            refine lv_aload_n hx hb dM_isSentence_110 rfl (lv_at hl 1 rfl) ?_
            refine rg_getI hx hb hown hK hR hk_M 11 (by decide) kf_M_184 rfl c_1 dM_isSentence_111 ?_
            exact tM_isSentence_114 F hC ih a0 x2 (mI M a_4 x2.toNatClampNeg) (mI M a0 11) a0 _ _ _ _ _ _ h hR (lv_sub hl [1, 3, 0] rfl)
          · replace h := rz_f c_9 h
            refine lv_iload_n hx hb dM_isSentence_90 rfl (lv_at hl 0 rfl) ?_
            refine lv_bipush (v := 65) hx hb dM_isSentence_91 (by decide) ?_
            refine lv_icmp_eq (tgt := 102) hx hb dM_isSentence_93 (by decide) (fun c_10 => ?_) (fun c_10 => ?_)
            · replace h := rz_t c_10 h
              exact tM_isSentence_102 F hC ih a0 x2 (mI M a_4 x2.toNatClampNeg) a0 _ _ _ _ _ _ h hR (lv_sub hl [1, 3, 0] rfl)
            · replace h := rz_f c_10 h
              refine lv_iload_n hx hb dM_isSentence_96 rfl (lv_at hl 0 rfl) ?_
              refine lv_bipush (v := 69) hx hb dM_isSentence_97 (by decide) ?_
              refine lv_icmp_ne (tgt := 106) hx hb dM_isSentence_99 (by decide) (fun c_11 => ?_) (fun c_11 => ?_)
              · replace h := rz_f c_11 h
                refine lv_iconst (v := 0) hx hb dM_isSentence_106 (by decide) ?_
                refine lv_goto (tgt := 114) hx hb dM_isSentence_107 (by decide) ?_
                exact tM_isSentence_114 F hC ih a0 x2 (mI M a_4 x2.toNatClampNeg) 0 a0 _ _ _ _ _ _ h hR (lv_sub hl [1, 3, 0] rfl)
              · replace h := rz_t c_11 h
                exact tM_isSentence_102 F hC ih a0 x2 (mI M a_4 x2.toNatClampNeg) a0 _ _ _ _ _ _ h hR (lv_sub hl [1, 3, 0] rfl)
def fM_isSentence_27 (n d : Nat) (C : Cx) : Nat → Nat → Int32 → Mem → Rz
  | 0, _, _, _ => none
  | w + 1, a0, x1, M => if 6 ≤ x1 then (if mK M a0 = 5 then (if fits .boolean (.int 0) = true then (rzM (setI M a0 11 0) fun M_4 => (fM_isSentence_55 n d C n a0 1 0 M_4)) else none) else none) else (if mK M a0 = 5 then (rzD (mP M a0 23) fun a_8 => (if mK M a_8 = 21 then (if inA x1 (mL M a_8) then (rzM (setI M a_8 x1.toNatClampNeg ((-1))) fun M_12 => (fM_isSentence_27 n d C w a0 (x1 + 1) M_12)) else none) else none)) else none)
set_option maxRecDepth 100000 in
set_option maxHeartbeats 4000000 in
theorem tM_isSentence_27 {n : Nat} (F : FX p s m meth c G R M0 d "HeadCountModel" bM_isSentence 4 (some .boolean)) (hC : CBs l G d C) : ∀ (w : Nat) (a0 : Nat) (x1 : Int32) (M : Mem) (H : Heap) (locs : List Loc) (cells slots : Nat) (ls : Array Slot), fM_isSentence_27 n d C w a0 x1 M = some (r, M') → RL G M0 M H locs cells slots → lv_has ls 4 [(0, .ref a0), (1, .int x1)] → W p l e R s m args below meth c H locs cells slots (CQ G below s M0 r M') (F0 m 27 ls []) := by
  obtain ⟨hx, hb, hml, hown, hrt, hlk, hex, hK, hRm⟩ := id F
  intro w
  induction w with
  | zero => intro a0 x1 M H locs cells slots ls h; cases h
  | succ w ih =>
    intro a0 x1 M H locs cells slots ls h hR hl
    rw [fM_isSentence_27] at h
    refine lv_iload_n hx hb dM_isSentence_27 rfl (lv_at hl 1 rfl) ?_
    refine lv_bipush (v := 6) hx hb dM_isSentence_28 (by decide) ?_
    refine lv_icmp_ge (tgt := 46) hx hb dM_isSentence_30 (by decide) (fun c_1 => ?_) (fun c_1 => ?_)
    · replace h := rz_t c_1 h
      refine lv_aload_n hx hb dM_isSentence_46 rfl (lv_at hl 0 rfl) ?_
      refine lv_iconst (v := 0) hx hb dM_isSentence_47 (by decide) ?_
      obtain ⟨c_2, h⟩ := rz_chk h
      obtain ⟨c_3, h⟩ := rz_chk h
      obtain ⟨M_4, q_5, h⟩ := rz_m h
      refine rg_putI hx hb hown hK hR hk_M 11 (by decide) kf_M_184 rfl rfl (ty := .boolean) (by decide +kernel) (Or.inr (Or.inr rfl)) c_3 c_2 dM_isSentence_48 (fun H locs hR => ?_)
      rw [← q_5] at hR
      have c_6 : mK M_4 a0 = 5 := by rw [q_5]; exact c_2
      refine lv_iconst (v := 1) hx hb dM_isSentence_51 (by decide) ?_
      refine lv_istore_n (lv' := [(1, .int 1), (0, .ref a0)]) hx hb dM_isSentence_52 rfl hl (by decide) rfl (fun ls hl => ?_)
      refine lv_iconst (v := 0) hx hb dM_isSentence_53 (by decide) ?_
      refine lv_istore_n (lv' := [(2, .int 0), (1, .int 1), (0, .ref a0)]) hx hb dM_isSentence_54 rfl hl (by decide) rfl (fun ls hl => ?_)
      exact tM_isSentence_55 F hC n a0 1 0 _ _ _ _ _ _ h hR (lv_sub hl [2, 1, 0] rfl)
    · replace h := rz_f c_1 h
      refine lv_aload_n hx hb dM_isSentence_33 rfl (lv_at hl 0 rfl) ?_
      obtain ⟨c_7, h⟩ := rz_chk h
      refine rg_getP hx hb hown hK hR hk_M 23 (by decide) kf_M_48 rfl c_7 dM_isSentence_34 ?_
      refine lv_iload_n hx hb dM_isSentence_37 rfl (lv_at hl 1 rfl) ?_
      refine lv_iconst (v := (-1)) hx hb dM_isSentence_38 (by decide) ?_
      obtain ⟨a_8, e_9, h⟩ := rz_d h
      rw [e_9]
      obtain ⟨c_10, h⟩ := rz_chk h
      obtain ⟨c_11, h⟩ := rz_chk h
      obtain ⟨M_12, q_13, h⟩ := rz_m h
      refine rg_iast hx hb hK hR c_10 c_11 dM_isSentence_39 (fun H locs hR => ?_)
      rw [← q_13] at hR
      have c_14 : mK M_12 a0 = 5 := by rw [q_13]; exact c_7
      have c_15 : mK M_12 a_8 = 21 := by rw [q_13]; exact c_10
      refine lv_iinc (k := 1) (v := x1 + 1) (lv' := [(1, .int (x1 + 1)), (0, .ref a0)]) hx hb dM_isSentence_40 hl rfl (by rw [show Int32.ofInt 1 = 1 from by decide]) (by decide) rfl (fun ls hl => ?_)
      refine lv_goto (tgt := 27) hx hb dM_isSentence_43 (by decide) ?_
      exact ih a0 (x1 + 1) _ _ _ _ _ _ h hR (lv_sub hl [1, 0] rfl)
def fM_isSentence_0 (n d : Nat) (C : Cx) (a0 : Nat) (M : Mem) : Rz := if mK M a0 = 5 then (rzM (setI M a0 18 0) fun M_2 => (rzM (setI M_2 a0 19 0) fun M_5 => (rzM (setI M_5 a0 24 0) fun M_8 => (rzM (setI M_8 a0 12 0) fun M_11 => (rzM (setI M_11 a0 13 0) fun M_14 => (fM_isSentence_27 n d C n a0 0 M_14)))))) else none
set_option maxRecDepth 100000 in
set_option maxHeartbeats 4000000 in
theorem tM_isSentence_0 {n : Nat} (F : FX p s m meth c G R M0 d "HeadCountModel" bM_isSentence 4 (some .boolean)) (hC : CBs l G d C) : ∀ (a0 : Nat) (M : Mem) (H : Heap) (locs : List Loc) (cells slots : Nat) (ls : Array Slot), fM_isSentence_0 n d C a0 M = some (r, M') → RL G M0 M H locs cells slots → lv_has ls 4 [(0, .ref a0)] → W p l e R s m args below meth c H locs cells slots (CQ G below s M0 r M') (F0 m 0 ls []) := by
  obtain ⟨hx, hb, hml, hown, hrt, hlk, hex, hK, hRm⟩ := id F
  intro a0 M H locs cells slots ls h hR hl
  unfold fM_isSentence_0 at h
  refine lv_aload_n hx hb dM_isSentence_0 rfl (lv_at hl 0 rfl) ?_
  refine lv_iconst (v := 0) hx hb dM_isSentence_1 (by decide) ?_
  obtain ⟨c_1, h⟩ := rz_chk h
  obtain ⟨M_2, q_3, h⟩ := rz_m h
  refine rg_putI hx hb hown hK hR hk_M 18 (by decide) kf_M_166 rfl rfl (ty := .int) (by decide +kernel) (Or.inl rfl) rfl c_1 dM_isSentence_2 (fun H locs hR => ?_)
  rw [← q_3] at hR
  have c_4 : mK M_2 a0 = 5 := by rw [q_3]; exact c_1
  refine lv_aload_n hx hb dM_isSentence_5 rfl (lv_at hl 0 rfl) ?_
  refine lv_iconst (v := 0) hx hb dM_isSentence_6 (by decide) ?_
  obtain ⟨M_5, q_6, h⟩ := rz_m h
  refine rg_putI hx hb hown hK hR hk_M 19 (by decide) kf_M_72 rfl rfl (ty := .int) (by decide +kernel) (Or.inl rfl) rfl c_4 dM_isSentence_7 (fun H locs hR => ?_)
  rw [← q_6] at hR
  have c_7 : mK M_5 a0 = 5 := by rw [q_6]; exact c_4
  refine lv_aload_n hx hb dM_isSentence_10 rfl (lv_at hl 0 rfl) ?_
  refine lv_iconst (v := 0) hx hb dM_isSentence_11 (by decide) ?_
  obtain ⟨M_8, q_9, h⟩ := rz_m h
  refine rg_putI hx hb hown hK hR hk_M 24 (by decide) kf_M_75 rfl rfl (ty := .int) (by decide +kernel) (Or.inl rfl) rfl c_7 dM_isSentence_12 (fun H locs hR => ?_)
  rw [← q_9] at hR
  have c_10 : mK M_8 a0 = 5 := by rw [q_9]; exact c_7
  refine lv_aload_n hx hb dM_isSentence_15 rfl (lv_at hl 0 rfl) ?_
  refine lv_iconst (v := 0) hx hb dM_isSentence_16 (by decide) ?_
  obtain ⟨M_11, q_12, h⟩ := rz_m h
  refine rg_putI hx hb hown hK hR hk_M 12 (by decide) kf_M_69 rfl rfl (ty := .int) (by decide +kernel) (Or.inl rfl) rfl c_10 dM_isSentence_17 (fun H locs hR => ?_)
  rw [← q_12] at hR
  have c_13 : mK M_11 a0 = 5 := by rw [q_12]; exact c_10
  refine lv_aload_n hx hb dM_isSentence_20 rfl (lv_at hl 0 rfl) ?_
  refine lv_iconst (v := 0) hx hb dM_isSentence_21 (by decide) ?_
  obtain ⟨M_14, q_15, h⟩ := rz_m h
  refine rg_putI hx hb hown hK hR hk_M 13 (by decide) kf_M_98 rfl rfl (ty := .int) (by decide +kernel) (Or.inl rfl) rfl c_13 dM_isSentence_22 (fun H locs hR => ?_)
  rw [← q_15] at hR
  have c_16 : mK M_14 a0 = 5 := by rw [q_15]; exact c_13
  refine lv_iconst (v := 0) hx hb dM_isSentence_25 (by decide) ?_
  refine lv_istore_n (lv' := [(1, .int 0), (0, .ref a0)]) hx hb dM_isSentence_26 rfl hl (by decide) rfl (fun ls hl => ?_)
  exact tM_isSentence_27 F hC n a0 0 _ _ _ _ _ _ h hR (lv_sub hl [1, 0] rfl)
set_option maxRecDepth 100000 in
set_option maxHeartbeats 4000000 in
theorem sM_isSentence {l : Launch} {G : Gx} {n d : Nat} {C : Cx} (hC : CBs l G d C) (a0 : Nat) {M M' : Mem} {r : Option Value ⊕ Nat} (h : fM_isSentence_0 n d C a0 M = some (r, M')) : CB l G (d + 1) yM_isSentence [.ref a0] M r M' := by
  intro p e R s m below meth c hx hn hm hc hlk hK hR hcap hS hU hfr hlo hrc hrs
  obtain ⟨hb, hml, hrt, hex, hown⟩ := fx_of hn hm hc (hK.w mfM_isSentence.2.2.1 rfl #[])
  have F : FX p s m meth c G R M d "HeadCountModel" bM_isSentence 4 (some .boolean) := ⟨hx, hb, hml, hown, hrt, hlk, hex, hK, hfr, hlo, by rw [← hcap]; exact hrc, hrs⟩
  rw [hml]
  have hl := lv_entry ([.ref a0]) (n := 4) (by simp [lg_sl, cat_rf, cat_i, cat_a, cat_l, cat_n])
  rw [lg_entry_eq]
  generalize (lg_sl ([.ref a0]) ++ List.replicate (4 - (lg_sl ([.ref a0])).length) Slot.unset).toArray = ls at hl ⊢
  have hl : lv_has ls 4 [(0, .ref a0)] := by simpa [lv_args, cat_rf, cat_i, cat_a, cat_l, cat_n] using hl
  exact tM_isSentence_0 F hC a0 _ _ _ _ _ _ h (RL.start hR hcap hS hU) (lv_sub hl [0] rfl)
def fM_next_0 (n d : Nat) (C : Cx) (a0 : Nat) (x1 : Int32) (M : Mem) : Rz := if mK M a0 = 5 then (if (mI M a0 18) = 0 then (rzC (C 73 [.ref a0, .int x1] M) fun v_3 M_4 => (rzI v_3 fun x_7 => (some (.inl (some (.int x_7)), M_4)))) else (if (mI M a0 18) = 1 then (rzC (C 83 [.ref a0, .int x1] M) fun v_9 M_10 => (rzI v_9 fun x_13 => (some (.inl (some (.int x_13)), M_10)))) else (if (mI M a0 18) = 2 then (rzC (C 88 [.ref a0, .int x1] M) fun v_15 M_16 => (rzI v_15 fun x_19 => (some (.inl (some (.int x_19)), M_16)))) else (if (mI M a0 18) = 3 then (rzC (C 76 [.ref a0, .int x1] M) fun v_21 M_22 => (rzI v_21 fun x_25 => (some (.inl (some (.int x_25)), M_22)))) else (if (mI M a0 18) = 4 then (rzC (C 77 [.ref a0, .int x1] M) fun v_27 M_28 => (rzI v_27 fun x_31 => (some (.inl (some (.int x_31)), M_28)))) else (if (mI M a0 18) = 5 then (rzC (C 89 [.ref a0, .int x1] M) fun v_33 M_34 => (rzI v_33 fun x_37 => (some (.inl (some (.int x_37)), M_34)))) else (if (mI M a0 18) = 6 then (rzC (C 79 [.ref a0, .int x1] M) fun v_39 M_40 => (rzI v_39 fun x_43 => (some (.inl (some (.int x_43)), M_40)))) else (if (mI M a0 18) = 7 then (rzC (C 90 [.ref a0, .int x1] M) fun v_45 M_46 => (rzI v_45 fun x_49 => (some (.inl (some (.int x_49)), M_46)))) else (if (mI M a0 18) = 8 then (rzC (C 91 [.ref a0, .int x1] M) fun v_51 M_52 => (rzI v_51 fun x_55 => (some (.inl (some (.int x_55)), M_52)))) else (if (mI M a0 18) = 9 then (rzC (C 93 [.ref a0, .int x1] M) fun v_57 M_58 => (rzI v_57 fun x_61 => (some (.inl (some (.int x_61)), M_58)))) else (some (.inl (some (.int 10)), M)))))))))))) else none
set_option maxRecDepth 100000 in
set_option maxHeartbeats 4000000 in
theorem tM_next_0 {n : Nat} (F : FX p s m meth c G R M0 d "HeadCountModel" bM_next 2 (some .int)) (hC : CBs l G d C) : ∀ (a0 : Nat) (x1 : Int32) (M : Mem) (H : Heap) (locs : List Loc) (cells slots : Nat) (ls : Array Slot), fM_next_0 n d C a0 x1 M = some (r, M') → RL G M0 M H locs cells slots → lv_has ls 2 [(0, .ref a0), (1, .int x1)] → W p l e R s m args below meth c H locs cells slots (CQ G below s M0 r M') (F0 m 0 ls []) := by
  obtain ⟨hx, hb, hml, hown, hrt, hlk, hex, hK, hRm⟩ := id F
  intro a0 x1 M H locs cells slots ls h hR hl
  unfold fM_next_0 at h
  refine lv_aload_n hx hb dM_next_0 rfl (lv_at hl 0 rfl) ?_
  obtain ⟨c_1, h⟩ := rz_chk h
  refine rg_getI hx hb hown hK hR hk_M 18 (by decide) kf_M_166 rfl c_1 dM_next_1 ?_
  by_cases c_2 : (mI M a0 18) = 0
  · replace h := rz_t c_2 h
    refine lv_tableIn (off := 56) (tgt := 60) hx hb dM_next_4 (by rw [c_2]; decide) (by rw [c_2]; decide) (by rw [c_2]; decide) (by decide) ?_
    refine lv_aload_n hx hb dM_next_60 rfl (lv_at hl 0 rfl) ?_
    refine lv_iload_n hx hb dM_next_61 rfl (lv_at hl 1 rfl) ?_
    obtain ⟨q_6, M_4, h_5, h⟩ := rz_c h
    refine rc_V (rest := []) (As := [.int x1]) hx hb (hl.1.trans hml.symm) hown hK hR hRm mfM_one kl_M_169 hk_M rfl rfl c_1 (by simp [cat_rf, cat_i, cat_a, cat_l, cat_n]) (hC 73 _ _ _ _ h_5) dM_next_62 (fun v1 H locs cells slots ev hR => ?_) (fun x1 q1 ce1 H locs cells slots ex hR g1 g2 g3 => ?_)
    · rcases h with ⟨v_3, ev2, h⟩ | ⟨e2, ee2, -⟩
      · cases ev.symm.trans ev2
        replace h := rz_i h
        obtain ⟨x_7, rfl, h⟩ := h
        dsimp only [Option.toList, List.cons_append, List.nil_append]
        cases h
        exact rt_i hx hb hlk hrt (Or.inl rfl) rfl hR dM_next_65
      · cases ev.symm.trans ee2
    · rcases h with ⟨v2, ev2, -⟩ | ⟨e2, ee2, h⟩
      · cases ex.symm.trans ev2
      · cases ex.symm.trans ee2
        cases h
        exact rt_x hlk hex hR g1 g2 g3
  · replace h := rz_f c_2 h
    by_cases c_8 : (mI M a0 18) = 1
    · replace h := rz_t c_8 h
      refine lv_tableIn (off := 62) (tgt := 66) hx hb dM_next_4 (by rw [c_8]; decide) (by rw [c_8]; decide) (by rw [c_8]; decide) (by decide) ?_
      refine lv_aload_n hx hb dM_next_66 rfl (lv_at hl 0 rfl) ?_
      refine lv_iload_n hx hb dM_next_67 rfl (lv_at hl 1 rfl) ?_
      obtain ⟨q_12, M_10, h_11, h⟩ := rz_c h
      refine rc_V (rest := []) (As := [.int x1]) hx hb (hl.1.trans hml.symm) hown hK hR hRm mfM_afterOne kl_M_160 hk_M rfl rfl c_1 (by simp [cat_rf, cat_i, cat_a, cat_l, cat_n]) (hC 83 _ _ _ _ h_11) dM_next_68 (fun v1 H locs cells slots ev hR => ?_) (fun x1 q1 ce1 H locs cells slots ex hR g1 g2 g3 => ?_)
      · rcases h with ⟨v_9, ev2, h⟩ | ⟨e2, ee2, -⟩
        · cases ev.symm.trans ev2
          replace h := rz_i h
          obtain ⟨x_13, rfl, h⟩ := h
          dsimp only [Option.toList, List.cons_append, List.nil_append]
          cases h
          exact rt_i hx hb hlk hrt (Or.inl rfl) rfl hR dM_next_71
        · cases ev.symm.trans ee2
      · rcases h with ⟨v2, ev2, -⟩ | ⟨e2, ee2, h⟩
        · cases ex.symm.trans ev2
        · cases ex.symm.trans ee2
          cases h
          exact rt_x hlk hex hR g1 g2 g3
    · replace h := rz_f c_8 h
      by_cases c_14 : (mI M a0 18) = 2
      · replace h := rz_t c_14 h
        refine lv_tableIn (off := 68) (tgt := 72) hx hb dM_next_4 (by rw [c_14]; decide) (by rw [c_14]; decide) (by rw [c_14]; decide) (by decide) ?_
        refine lv_aload_n hx hb dM_next_72 rfl (lv_at hl 0 rfl) ?_
        refine lv_iload_n hx hb dM_next_73 rfl (lv_at hl 1 rfl) ?_
        obtain ⟨q_18, M_16, h_17, h⟩ := rz_c h
        refine rc_V (rest := []) (As := [.int x1]) hx hb (hl.1.trans hml.symm) hown hK hR hRm mfM_bound kl_M_172 hk_M rfl rfl c_1 (by simp [cat_rf, cat_i, cat_a, cat_l, cat_n]) (hC 88 _ _ _ _ h_17) dM_next_74 (fun v1 H locs cells slots ev hR => ?_) (fun x1 q1 ce1 H locs cells slots ex hR g1 g2 g3 => ?_)
        · rcases h with ⟨v_15, ev2, h⟩ | ⟨e2, ee2, -⟩
          · cases ev.symm.trans ev2
            replace h := rz_i h
            obtain ⟨x_19, rfl, h⟩ := h
            dsimp only [Option.toList, List.cons_append, List.nil_append]
            cases h
            exact rt_i hx hb hlk hrt (Or.inl rfl) rfl hR dM_next_77
          · cases ev.symm.trans ee2
        · rcases h with ⟨v2, ev2, -⟩ | ⟨e2, ee2, h⟩
          · cases ex.symm.trans ev2
          · cases ex.symm.trans ee2
            cases h
            exact rt_x hlk hex hR g1 g2 g3
      · replace h := rz_f c_14 h
        by_cases c_20 : (mI M a0 18) = 3
        · replace h := rz_t c_20 h
          refine lv_tableIn (off := 74) (tgt := 78) hx hb dM_next_4 (by rw [c_20]; decide) (by rw [c_20]; decide) (by rw [c_20]; decide) (by decide) ?_
          refine lv_aload_n hx hb dM_next_78 rfl (lv_at hl 0 rfl) ?_
          refine lv_iload_n hx hb dM_next_79 rfl (lv_at hl 1 rfl) ?_
          obtain ⟨q_24, M_22, h_23, h⟩ := rz_c h
          refine rc_V (rest := []) (As := [.int x1]) hx hb (hl.1.trans hml.symm) hown hK hR hRm mfM_sum kl_M_104 hk_M rfl rfl c_1 (by simp [cat_rf, cat_i, cat_a, cat_l, cat_n]) (hC 76 _ _ _ _ h_23) dM_next_80 (fun v1 H locs cells slots ev hR => ?_) (fun x1 q1 ce1 H locs cells slots ex hR g1 g2 g3 => ?_)
          · rcases h with ⟨v_21, ev2, h⟩ | ⟨e2, ee2, -⟩
            · cases ev.symm.trans ev2
              replace h := rz_i h
              obtain ⟨x_25, rfl, h⟩ := h
              dsimp only [Option.toList, List.cons_append, List.nil_append]
              cases h
              exact rt_i hx hb hlk hrt (Or.inl rfl) rfl hR dM_next_83
            · cases ev.symm.trans ee2
          · rcases h with ⟨v2, ev2, -⟩ | ⟨e2, ee2, h⟩
            · cases ex.symm.trans ev2
            · cases ex.symm.trans ee2
              cases h
              exact rt_x hlk hex hR g1 g2 g3
        · replace h := rz_f c_20 h
          by_cases c_26 : (mI M a0 18) = 4
          · replace h := rz_t c_26 h
            refine lv_tableIn (off := 80) (tgt := 84) hx hb dM_next_4 (by rw [c_26]; decide) (by rw [c_26]; decide) (by rw [c_26]; decide) (by decide) ?_
            refine lv_aload_n hx hb dM_next_84 rfl (lv_at hl 0 rfl) ?_
            refine lv_iload_n hx hb dM_next_85 rfl (lv_at hl 1 rfl) ?_
            obtain ⟨q_30, M_28, h_29, h⟩ := rz_c h
            refine rc_V (rest := []) (As := [.int x1]) hx hb (hl.1.trans hml.symm) hown hK hR hRm mfM_part kl_M_129 hk_M rfl rfl c_1 (by simp [cat_rf, cat_i, cat_a, cat_l, cat_n]) (hC 77 _ _ _ _ h_29) dM_next_86 (fun v1 H locs cells slots ev hR => ?_) (fun x1 q1 ce1 H locs cells slots ex hR g1 g2 g3 => ?_)
            · rcases h with ⟨v_27, ev2, h⟩ | ⟨e2, ee2, -⟩
              · cases ev.symm.trans ev2
                replace h := rz_i h
                obtain ⟨x_31, rfl, h⟩ := h
                dsimp only [Option.toList, List.cons_append, List.nil_append]
                cases h
                exact rt_i hx hb hlk hrt (Or.inl rfl) rfl hR dM_next_89
              · cases ev.symm.trans ee2
            · rcases h with ⟨v2, ev2, -⟩ | ⟨e2, ee2, h⟩
              · cases ex.symm.trans ev2
              · cases ex.symm.trans ee2
                cases h
                exact rt_x hlk hex hR g1 g2 g3
          · replace h := rz_f c_26 h
            by_cases c_32 : (mI M a0 18) = 5
            · replace h := rz_t c_32 h
              refine lv_tableIn (off := 86) (tgt := 90) hx hb dM_next_4 (by rw [c_32]; decide) (by rw [c_32]; decide) (by rw [c_32]; decide) (by decide) ?_
              refine lv_aload_n hx hb dM_next_90 rfl (lv_at hl 0 rfl) ?_
              refine lv_iload_n hx hb dM_next_91 rfl (lv_at hl 1 rfl) ?_
              obtain ⟨q_36, M_34, h_35, h⟩ := rz_c h
              refine rc_V (rest := []) (As := [.int x1]) hx hb (hl.1.trans hml.symm) hown hK hR hRm mfM_afterNumber kl_M_175 hk_M rfl rfl c_1 (by simp [cat_rf, cat_i, cat_a, cat_l, cat_n]) (hC 89 _ _ _ _ h_35) dM_next_92 (fun v1 H locs cells slots ev hR => ?_) (fun x1 q1 ce1 H locs cells slots ex hR g1 g2 g3 => ?_)
              · rcases h with ⟨v_33, ev2, h⟩ | ⟨e2, ee2, -⟩
                · cases ev.symm.trans ev2
                  replace h := rz_i h
                  obtain ⟨x_37, rfl, h⟩ := h
                  dsimp only [Option.toList, List.cons_append, List.nil_append]
                  cases h
                  exact rt_i hx hb hlk hrt (Or.inl rfl) rfl hR dM_next_95
                · cases ev.symm.trans ee2
              · rcases h with ⟨v2, ev2, -⟩ | ⟨e2, ee2, h⟩
                · cases ex.symm.trans ev2
                · cases ex.symm.trans ee2
                  cases h
                  exact rt_x hlk hex hR g1 g2 g3
            · replace h := rz_f c_32 h
              by_cases c_38 : (mI M a0 18) = 6
              · replace h := rz_t c_38 h
                refine lv_tableIn (off := 92) (tgt := 96) hx hb dM_next_4 (by rw [c_38]; decide) (by rw [c_38]; decide) (by rw [c_38]; decide) (by decide) ?_
                refine lv_aload_n hx hb dM_next_96 rfl (lv_at hl 0 rfl) ?_
                refine lv_iload_n hx hb dM_next_97 rfl (lv_at hl 1 rfl) ?_
                obtain ⟨q_42, M_40, h_41, h⟩ := rz_c h
                refine rc_V (rest := []) (As := [.int x1]) hx hb (hl.1.trans hml.symm) hown hK hR hRm mfM_thing kl_M_145 hk_M rfl rfl c_1 (by simp [cat_rf, cat_i, cat_a, cat_l, cat_n]) (hC 79 _ _ _ _ h_41) dM_next_98 (fun v1 H locs cells slots ev hR => ?_) (fun x1 q1 ce1 H locs cells slots ex hR g1 g2 g3 => ?_)
                · rcases h with ⟨v_39, ev2, h⟩ | ⟨e2, ee2, -⟩
                  · cases ev.symm.trans ev2
                    replace h := rz_i h
                    obtain ⟨x_43, rfl, h⟩ := h
                    dsimp only [Option.toList, List.cons_append, List.nil_append]
                    cases h
                    exact rt_i hx hb hlk hrt (Or.inl rfl) rfl hR dM_next_101
                  · cases ev.symm.trans ee2
                · rcases h with ⟨v2, ev2, -⟩ | ⟨e2, ee2, h⟩
                  · cases ex.symm.trans ev2
                  · cases ex.symm.trans ee2
                    cases h
                    exact rt_x hlk hex hR g1 g2 g3
              · replace h := rz_f c_38 h
                by_cases c_44 : (mI M a0 18) = 7
                · replace h := rz_t c_44 h
                  refine lv_tableIn (off := 98) (tgt := 102) hx hb dM_next_4 (by rw [c_44]; decide) (by rw [c_44]; decide) (by rw [c_44]; decide) (by decide) ?_
                  refine lv_aload_n hx hb dM_next_102 rfl (lv_at hl 0 rfl) ?_
                  refine lv_iload_n hx hb dM_next_103 rfl (lv_at hl 1 rfl) ?_
                  obtain ⟨q_48, M_46, h_47, h⟩ := rz_c h
                  refine rc_V (rest := []) (As := [.int x1]) hx hb (hl.1.trans hml.symm) hown hK hR hRm mfM_afterPart kl_M_157 hk_M rfl rfl c_1 (by simp [cat_rf, cat_i, cat_a, cat_l, cat_n]) (hC 90 _ _ _ _ h_47) dM_next_104 (fun v1 H locs cells slots ev hR => ?_) (fun x1 q1 ce1 H locs cells slots ex hR g1 g2 g3 => ?_)
                  · rcases h with ⟨v_45, ev2, h⟩ | ⟨e2, ee2, -⟩
                    · cases ev.symm.trans ev2
                      replace h := rz_i h
                      obtain ⟨x_49, rfl, h⟩ := h
                      dsimp only [Option.toList, List.cons_append, List.nil_append]
                      cases h
                      exact rt_i hx hb hlk hrt (Or.inl rfl) rfl hR dM_next_107
                    · cases ev.symm.trans ee2
                  · rcases h with ⟨v2, ev2, -⟩ | ⟨e2, ee2, h⟩
                    · cases ex.symm.trans ev2
                    · cases ex.symm.trans ee2
                      cases h
                      exact rt_x hlk hex hR g1 g2 g3
                · replace h := rz_f c_44 h
                  by_cases c_50 : (mI M a0 18) = 8
                  · replace h := rz_t c_50 h
                    refine lv_tableIn (off := 104) (tgt := 108) hx hb dM_next_4 (by rw [c_50]; decide) (by rw [c_50]; decide) (by rw [c_50]; decide) (by decide) ?_
                    refine lv_aload_n hx hb dM_next_108 rfl (lv_at hl 0 rfl) ?_
                    refine lv_iload_n hx hb dM_next_109 rfl (lv_at hl 1 rfl) ?_
                    obtain ⟨q_54, M_52, h_53, h⟩ := rz_c h
                    refine rc_V (rest := []) (As := [.int x1]) hx hb (hl.1.trans hml.symm) hown hK hR hRm mfM_single kl_M_178 hk_M rfl rfl c_1 (by simp [cat_rf, cat_i, cat_a, cat_l, cat_n]) (hC 91 _ _ _ _ h_53) dM_next_110 (fun v1 H locs cells slots ev hR => ?_) (fun x1 q1 ce1 H locs cells slots ex hR g1 g2 g3 => ?_)
                    · rcases h with ⟨v_51, ev2, h⟩ | ⟨e2, ee2, -⟩
                      · cases ev.symm.trans ev2
                        replace h := rz_i h
                        obtain ⟨x_55, rfl, h⟩ := h
                        dsimp only [Option.toList, List.cons_append, List.nil_append]
                        cases h
                        exact rt_i hx hb hlk hrt (Or.inl rfl) rfl hR dM_next_113
                      · cases ev.symm.trans ee2
                    · rcases h with ⟨v2, ev2, -⟩ | ⟨e2, ee2, h⟩
                      · cases ex.symm.trans ev2
                      · cases ex.symm.trans ee2
                        cases h
                        exact rt_x hlk hex hR g1 g2 g3
                  · replace h := rz_f c_50 h
                    by_cases c_56 : (mI M a0 18) = 9
                    · replace h := rz_t c_56 h
                      refine lv_tableIn (off := 110) (tgt := 114) hx hb dM_next_4 (by rw [c_56]; decide) (by rw [c_56]; decide) (by rw [c_56]; decide) (by decide) ?_
                      refine lv_aload_n hx hb dM_next_114 rfl (lv_at hl 0 rfl) ?_
                      refine lv_iload_n hx hb dM_next_115 rfl (lv_at hl 1 rfl) ?_
                      obtain ⟨q_60, M_58, h_59, h⟩ := rz_c h
                      refine rc_V (rest := []) (As := [.int x1]) hx hb (hl.1.trans hml.symm) hown hK hR hRm mfM_afterSingle kl_M_181 hk_M rfl rfl c_1 (by simp [cat_rf, cat_i, cat_a, cat_l, cat_n]) (hC 93 _ _ _ _ h_59) dM_next_116 (fun v1 H locs cells slots ev hR => ?_) (fun x1 q1 ce1 H locs cells slots ex hR g1 g2 g3 => ?_)
                      · rcases h with ⟨v_57, ev2, h⟩ | ⟨e2, ee2, -⟩
                        · cases ev.symm.trans ev2
                          replace h := rz_i h
                          obtain ⟨x_61, rfl, h⟩ := h
                          dsimp only [Option.toList, List.cons_append, List.nil_append]
                          cases h
                          exact rt_i hx hb hlk hrt (Or.inl rfl) rfl hR dM_next_119
                        · cases ev.symm.trans ee2
                      · rcases h with ⟨v2, ev2, -⟩ | ⟨e2, ee2, h⟩
                        · cases ex.symm.trans ev2
                        · cases ex.symm.trans ee2
                          cases h
                          exact rt_x hlk hex hR g1 g2 g3
                    · replace h := rz_f c_56 h
                      have zc_2 := lv_neT c_2 (k := 0) (a := 0) (by decide)
                      have zc_8 := lv_neT c_8 (k := 1) (a := 1) (by decide)
                      have zc_14 := lv_neT c_14 (k := 2) (a := 2) (by decide)
                      have zc_20 := lv_neT c_20 (k := 3) (a := 3) (by decide)
                      have zc_26 := lv_neT c_26 (k := 4) (a := 4) (by decide)
                      have zc_32 := lv_neT c_32 (k := 5) (a := 5) (by decide)
                      have zc_38 := lv_neT c_38 (k := 6) (a := 6) (by decide)
                      have zc_44 := lv_neT c_44 (k := 7) (a := 7) (by decide)
                      have zc_50 := lv_neT c_50 (k := 8) (a := 8) (by decide)
                      have zc_56 := lv_neT c_56 (k := 9) (a := 9) (by decide)
                      refine lv_tableOut (tgt := 120) hx hb dM_next_4 (by omega) (by decide) ?_
                      refine lv_bipush (v := 10) hx hb dM_next_120 (by decide) ?_
                      cases h
                      exact rt_i hx hb hlk hrt (Or.inl rfl) rfl hR dM_next_122
set_option maxRecDepth 100000 in
set_option maxHeartbeats 4000000 in
theorem sM_next {l : Launch} {G : Gx} {n d : Nat} {C : Cx} (hC : CBs l G d C) (a0 : Nat) (x1 : Int32) {M M' : Mem} {r : Option Value ⊕ Nat} (h : fM_next_0 n d C a0 x1 M = some (r, M')) : CB l G (d + 1) yM_next [.ref a0, .int x1] M r M' := by
  intro p e R s m below meth c hx hn hm hc hlk hK hR hcap hS hU hfr hlo hrc hrs
  obtain ⟨hb, hml, hrt, hex, hown⟩ := fx_of hn hm hc (hK.w mfM_next.2.2.1 rfl #[])
  have F : FX p s m meth c G R M d "HeadCountModel" bM_next 2 (some .int) := ⟨hx, hb, hml, hown, hrt, hlk, hex, hK, hfr, hlo, by rw [← hcap]; exact hrc, hrs⟩
  rw [hml]
  have hl := lv_entry ([.ref a0, .int x1]) (n := 2) (by simp [lg_sl, cat_rf, cat_i, cat_a, cat_l, cat_n])
  rw [lg_entry_eq]
  generalize (lg_sl ([.ref a0, .int x1]) ++ List.replicate (2 - (lg_sl ([.ref a0, .int x1])).length) Slot.unset).toArray = ls at hl ⊢
  have hl : lv_has ls 2 [(0, .ref a0), (1, .int x1)] := by simpa [lv_args, cat_rf, cat_i, cat_a, cat_l, cat_n] using hl
  exact tM_next_0 F hC a0 x1 _ _ _ _ _ _ h (RL.start hR hcap hS hU) (lv_sub hl [0, 1] rfl)
def fM_single_27 (n d : Nat) (C : Cx) (xs0 : Int32) (M : Mem) : Rz := some (.inl (some (.int xs0)), M)
set_option maxRecDepth 100000 in
set_option maxHeartbeats 4000000 in
theorem tM_single_27 {n : Nat} (F : FX p s m meth c G R M0 d "HeadCountModel" bM_single 3 (some .int)) (hC : CBs l G d C) : ∀ (xs0 : Int32) (M : Mem) (H : Heap) (locs : List Loc) (cells slots : Nat) (ls : Array Slot), fM_single_27 n d C xs0 M = some (r, M') → RL G M0 M H locs cells slots → lv_has ls 3 [] → W p l e R s m args below meth c H locs cells slots (CQ G below s M0 r M') (F0 m 27 ls [.int xs0]) := by
  obtain ⟨hx, hb, hml, hown, hrt, hlk, hex, hK, hRm⟩ := id F
  intro xs0 M H locs cells slots ls h hR hl
  unfold fM_single_27 at h
  cases h
  exact rt_i hx hb hlk hrt (Or.inl rfl) rfl hR dM_single_27
def fM_single_50 (n d : Nat) (C : Cx) (xs0 : Int32) (M : Mem) : Rz := some (.inl (some (.int xs0)), M)
set_option maxRecDepth 100000 in
set_option maxHeartbeats 4000000 in
theorem tM_single_50 {n : Nat} (F : FX p s m meth c G R M0 d "HeadCountModel" bM_single 3 (some .int)) (hC : CBs l G d C) : ∀ (xs0 : Int32) (M : Mem) (H : Heap) (locs : List Loc) (cells slots : Nat) (ls : Array Slot), fM_single_50 n d C xs0 M = some (r, M') → RL G M0 M H locs cells slots → lv_has ls 3 [] → W p l e R s m args below meth c H locs cells slots (CQ G below s M0 r M') (F0 m 50 ls [.int xs0]) := by
  obtain ⟨hx, hb, hml, hown, hrt, hlk, hex, hK, hRm⟩ := id F
  intro xs0 M H locs cells slots ls h hR hl
  unfold fM_single_50 at h
  cases h
  exact rt_i hx hb hlk hrt (Or.inl rfl) rfl hR dM_single_50
def fM_single_116 (n d : Nat) (C : Cx) (a0 : Nat) (M : Mem) : Rz := if mK M a0 = 5 then (rzC (C 92 [.ref a0] M) fun v_2 M_3 => (rzI v_2 fun x_6 => (some (.inl (some (.int x_6)), M_3)))) else none
set_option maxRecDepth 100000 in
set_option maxHeartbeats 4000000 in
theorem tM_single_116 {n : Nat} (F : FX p s m meth c G R M0 d "HeadCountModel" bM_single 3 (some .int)) (hC : CBs l G d C) : ∀ (a0 : Nat) (M : Mem) (H : Heap) (locs : List Loc) (cells slots : Nat) (ls : Array Slot), fM_single_116 n d C a0 M = some (r, M') → RL G M0 M H locs cells slots → lv_has ls 3 [(0, .ref a0)] → W p l e R s m args below meth c H locs cells slots (CQ G below s M0 r M') (F0 m 116 ls []) := by
  obtain ⟨hx, hb, hml, hown, hrt, hlk, hex, hK, hRm⟩ := id F
  intro a0 M H locs cells slots ls h hR hl
  unfold fM_single_116 at h
  refine lv_aload_n hx hb dM_single_116 rfl (lv_at hl 0 rfl) ?_
  obtain ⟨c_1, h⟩ := rz_chk h
  obtain ⟨q_5, M_3, h_4, h⟩ := rz_c h
  refine rc_V (rest := []) (As := []) hx hb (hl.1.trans hml.symm) hown hK hR hRm mfM_wholeSingle kl_M_163 hk_M rfl rfl c_1 (by simp [cat_rf, cat_i, cat_a, cat_l, cat_n]) (hC 92 _ _ _ _ h_4) dM_single_117 (fun v1 H locs cells slots ev hR => ?_) (fun x1 q1 ce1 H locs cells slots ex hR g1 g2 g3 => ?_)
  · rcases h with ⟨v_2, ev2, h⟩ | ⟨e2, ee2, -⟩
    · cases ev.symm.trans ev2
      replace h := rz_i h
      obtain ⟨x_6, rfl, h⟩ := h
      dsimp only [Option.toList, List.cons_append, List.nil_append]
      cases h
      exact rt_i hx hb hlk hrt (Or.inl rfl) rfl hR dM_single_120
    · cases ev.symm.trans ee2
  · rcases h with ⟨v2, ev2, -⟩ | ⟨e2, ee2, h⟩
    · cases ex.symm.trans ev2
    · cases ex.symm.trans ee2
      cases h
      exact rt_x hlk hex hR g1 g2 g3
def fM_single_77 (n d : Nat) (C : Cx) (a0 : Nat) (xs0 : Int32) (as1 : Nat) (M : Mem) : Rz := if mK M as1 = 5 then (rzC (C 81 [.ref as1, .int xs0, .int 0] M) fun v_2 M_3 => (rzV v_2 (fM_single_116 n d C a0 M_3))) else none
set_option maxRecDepth 100000 in
set_option maxHeartbeats 4000000 in
theorem tM_single_77 {n : Nat} (F : FX p s m meth c G R M0 d "HeadCountModel" bM_single 3 (some .int)) (hC : CBs l G d C) : ∀ (a0 : Nat) (xs0 : Int32) (as1 : Nat) (M : Mem) (H : Heap) (locs : List Loc) (cells slots : Nat) (ls : Array Slot), fM_single_77 n d C a0 xs0 as1 M = some (r, M') → RL G M0 M H locs cells slots → lv_has ls 3 [(0, .ref a0)] → W p l e R s m args below meth c H locs cells slots (CQ G below s M0 r M') (F0 m 77 ls [.int xs0, .ref as1]) := by
  obtain ⟨hx, hb, hml, hown, hrt, hlk, hex, hK, hRm⟩ := id F
  intro a0 xs0 as1 M H locs cells slots ls h hR hl
  unfold fM_single_77 at h
  refine lv_iconst (v := 0) hx hb dM_single_77 (by decide) ?_
  obtain ⟨c_1, h⟩ := rz_chk h
  obtain ⟨q_5, M_3, h_4, h⟩ := rz_c h
  refine rc_V (rest := []) (As := [.int xs0, .int 0]) hx hb (hl.1.trans hml.symm) hown hK hR hRm mfM_emit kl_M_86 hk_M rfl rfl c_1 (by simp [cat_rf, cat_i, cat_a, cat_l, cat_n]) (hC 81 _ _ _ _ h_4) dM_single_78 (fun v1 H locs cells slots ev hR => ?_) (fun x1 q1 ce1 H locs cells slots ex hR g1 g2 g3 => ?_)
  · rcases h with ⟨v_2, ev2, h⟩ | ⟨e2, ee2, -⟩
    · cases ev.symm.trans ev2
      replace h := rz_v h
      obtain ⟨rfl, h⟩ := h
      dsimp only [Option.toList, List.cons_append, List.nil_append]
      refine lv_goto (tgt := 116) hx hb dM_single_81 (by decide) ?_
      exact tM_single_116 F hC a0 _ _ _ _ _ _ h hR (lv_sub hl [0] rfl)
    · cases ev.symm.trans ee2
  · rcases h with ⟨v2, ev2, -⟩ | ⟨e2, ee2, h⟩
    · cases ex.symm.trans ev2
    · cases ex.symm.trans ee2
      cases h
      exact rt_x hlk hex hR g1 g2 g3
def fM_single_63 (n d : Nat) (C : Cx) (a0 : Nat) (x1 : Int32) (M : Mem) : Rz := if x1 = 48 then (fM_single_77 n d C a0 23 a0 M) else (fM_single_77 n d C a0 24 a0 M)
set_option maxRecDepth 100000 in
set_option maxHeartbeats 4000000 in
theorem tM_single_63 {n : Nat} (F : FX p s m meth c G R M0 d "HeadCountModel" bM_single 3 (some .int)) (hC : CBs l G d C) : ∀ (a0 : Nat) (x1 : Int32) (M : Mem) (H : Heap) (locs : List Loc) (cells slots : Nat) (ls : Array Slot), fM_single_63 n d C a0 x1 M = some (r, M') → RL G M0 M H locs cells slots → lv_has ls 3 [(0, .ref a0), (1, .int x1)] → W p l e R s m args below meth c H locs cells slots (CQ G below s M0 r M') (F0 m 63 ls []) := by
  obtain ⟨hx, hb, hml, hown, hrt, hlk, hex, hK, hRm⟩ := id F
  intro a0 x1 M H locs cells slots ls h hR hl
  unfold fM_single_63 at h
  refine lv_aload_n hx hb dM_single_63 rfl (lv_at hl 0 rfl) ?_
  refine lv_iload_n hx hb dM_single_64 rfl (lv_at hl 1 rfl) ?_
  refine lv_bipush (v := 48) hx hb dM_single_65 (by decide) ?_
  refine lv_icmp_ne (tgt := 75) hx hb dM_single_67 (by decide) (fun c_1 => ?_) (fun c_1 => ?_)
  · replace h := rz_f c_1 h
    refine lv_bipush (v := 24) hx hb dM_single_75 (by decide) ?_
    exact tM_single_77 F hC a0 24 a0 _ _ _ _ _ _ h hR (lv_sub hl [0] rfl)
  · replace h := rz_t c_1 h
    refine lv_bipush (v := 23) hx hb dM_single_70 (by decide) ?_
    refine lv_goto (tgt := 77) hx hb dM_single_72 (by decide) ?_
    exact tM_single_77 F hC a0 23 a0 _ _ _ _ _ _ h hR (lv_sub hl [0] rfl)
def fM_single_113 (n d : Nat) (C : Cx) (M : Mem) : Rz := some (.inl (some (.int 10)), M)
set_option maxRecDepth 100000 in
set_option maxHeartbeats 4000000 in
theorem tM_single_113 {n : Nat} (F : FX p s m meth c G R M0 d "HeadCountModel" bM_single 3 (some .int)) (hC : CBs l G d C) : ∀ (M : Mem) (H : Heap) (locs : List Loc) (cells slots : Nat) (ls : Array Slot), fM_single_113 n d C M = some (r, M') → RL G M0 M H locs cells slots → lv_has ls 3 [] → W p l e R s m args below meth c H locs cells slots (CQ G below s M0 r M') (F0 m 113 ls []) := by
  obtain ⟨hx, hb, hml, hown, hrt, hlk, hex, hK, hRm⟩ := id F
  intro M H locs cells slots ls h hR hl
  unfold fM_single_113 at h
  refine lv_bipush (v := 10) hx hb dM_single_113 (by decide) ?_
  cases h
  exact rt_i hx hb hlk hrt (Or.inl rfl) rfl hR dM_single_115
def fM_single_0 (n d : Nat) (C : Cx) (a0 : Nat) (x1 : Int32) (M : Mem) : Rz := rzC (C 80 [.int x1] M) fun v_1 M_2 => (rzI v_1 fun x_5 => (if x1 = 45 then (if mK M_2 a0 = 5 then (rzC (C 74 [.ref a0, .int 9] M_2) fun v_30 M_31 => (rzI v_30 fun x_34 => (if x_34 = 0 then (fM_single_27 n d C 10 M_31) else (fM_single_27 n d C 8 M_31)))) else none) else (if x1 = 40 then (if mK M_2 a0 = 5 then (rzC (C 74 [.ref a0, .int 10] M_2) fun v_23 M_24 => (rzI v_23 fun x_27 => (if x_27 = 0 then (fM_single_50 n d C 10 M_24) else (fM_single_50 n d C 8 M_24)))) else none) else (if x1 = 48 then (fM_single_63 n d C a0 x1 M_2) else (if x1 = 49 then (fM_single_63 n d C a0 x1 M_2) else (if x_5 ≤ 2 then (fM_single_113 n d C M_2) else (if mK M_2 a0 = 5 then (rzD (mP M_2 a0 23) fun a_12 => (if mK M_2 a_12 = 21 then (if inA x_5 (mL M_2 a_12) then (if (mI M_2 a_12 x_5.toNatClampNeg) < 0 then (fM_single_113 n d C M_2) else (if inA x_5 (mL M_2 a_12) then (rzC (C 81 [.ref a0, .int 14, .int (mI M_2 a_12 x_5.toNatClampNeg)] M_2) fun v_18 M_19 => (rzV v_18 (fM_single_116 n d C a0 M_19))) else none)) else none) else none)) else none)))))))
set_option maxRecDepth 100000 in
set_option maxHeartbeats 4000000 in
theorem tM_single_0 {n : Nat} (F : FX p s m meth c G R M0 d "HeadCountModel" bM_single 3 (some .int)) (hC : CBs l G d C) : ∀ (a0 : Nat) (x1 : Int32) (M : Mem) (H : Heap) (locs : List Loc) (cells slots : Nat) (ls : Array Slot), fM_single_0 n d C a0 x1 M = some (r, M') → RL G M0 M H locs cells slots → lv_has ls 3 [(0, .ref a0), (1, .int x1)] → W p l e R s m args below meth c H locs cells slots (CQ G below s M0 r M') (F0 m 0 ls []) := by
  obtain ⟨hx, hb, hml, hown, hrt, hlk, hex, hK, hRm⟩ := id F
  intro a0 x1 M H locs cells slots ls h hR hl
  unfold fM_single_0 at h
  refine lv_iload_n hx hb dM_single_0 rfl (lv_at hl 1 rfl) ?_
  obtain ⟨q_4, M_2, h_3, h⟩ := rz_c h
  refine rc_S (rest := []) (As := [.int x1]) hx hb (hl.1.trans hml.symm) hown hK hR hRm mfM_variableOf kl_M_108 rfl (by simp [cat_rf, cat_i, cat_a, cat_l, cat_n]) (hC 80 _ _ _ _ h_3) dM_single_1 (fun v1 H locs cells slots ev hR => ?_) (fun x1 q1 ce1 H locs cells slots ex hR g1 g2 g3 => ?_)
  · rcases h with ⟨v_1, ev2, h⟩ | ⟨e2, ee2, -⟩
    · cases ev.symm.trans ev2
      replace h := rz_i h
      obtain ⟨x_5, rfl, h⟩ := h
      dsimp only [Option.toList, List.cons_append, List.nil_append]
      refine lv_istore_n (lv' := [(2, .int x_5), (0, .ref a0), (1, .int x1)]) hx hb dM_single_4 rfl hl (by decide) rfl (fun ls hl => ?_)
      refine lv_iload_n hx hb dM_single_5 rfl (lv_at hl 2 rfl) ?_
      refine lv_bipush (v := 45) hx hb dM_single_6 (by decide) ?_
      refine lv_icmp_ne (tgt := 28) hx hb dM_single_8 (by decide) (fun c_6 => ?_) (fun c_6 => ?_)
      · replace h := rz_f c_6 h
        refine lv_iload_n hx hb dM_single_28 rfl (lv_at hl 2 rfl) ?_
        refine lv_bipush (v := 40) hx hb dM_single_29 (by decide) ?_
        refine lv_icmp_ne (tgt := 51) hx hb dM_single_31 (by decide) (fun c_7 => ?_) (fun c_7 => ?_)
        · replace h := rz_f c_7 h
          refine lv_iload_n hx hb dM_single_51 rfl (lv_at hl 2 rfl) ?_
          refine lv_bipush (v := 48) hx hb dM_single_52 (by decide) ?_
          refine lv_icmp_eq (tgt := 63) hx hb dM_single_54 (by decide) (fun c_8 => ?_) (fun c_8 => ?_)
          · replace h := rz_t c_8 h
            exact tM_single_63 F hC a0 x1 _ _ _ _ _ _ h hR (lv_sub hl [1, 2] rfl)
          · replace h := rz_f c_8 h
            refine lv_iload_n hx hb dM_single_57 rfl (lv_at hl 2 rfl) ?_
            refine lv_bipush (v := 49) hx hb dM_single_58 (by decide) ?_
            refine lv_icmp_ne (tgt := 84) hx hb dM_single_60 (by decide) (fun c_9 => ?_) (fun c_9 => ?_)
            · replace h := rz_f c_9 h
              refine lv_iload_n hx hb dM_single_84 rfl (lv_at hl 0 rfl) ?_
              refine lv_iconst (v := 2) hx hb dM_single_85 (by decide) ?_
              refine lv_icmp_le (tgt := 113) hx hb dM_single_86 (by decide) (fun c_10 => ?_) (fun c_10 => ?_)
              · replace h := rz_t c_10 h
                exact tM_single_113 F hC _ _ _ _ _ _ h hR (lv_sub hl [] rfl)
              · replace h := rz_f c_10 h
                refine lv_aload_n hx hb dM_single_89 rfl (lv_at hl 1 rfl) ?_
                obtain ⟨c_11, h⟩ := rz_chk h
                refine rg_getP hx hb hown hK hR hk_M 23 (by decide) kf_M_48 rfl c_11 dM_single_90 ?_
                refine lv_iload_n hx hb dM_single_93 rfl (lv_at hl 0 rfl) ?_
                obtain ⟨a_12, e_13, h⟩ := rz_d h
                rw [e_13]
                obtain ⟨c_14, h⟩ := rz_chk h
                obtain ⟨c_15, h⟩ := rz_chk h
                refine rg_iald hx hb hK hR c_14 c_15 dM_single_94 ?_
                refine lv_if_lt (tgt := 113) hx hb dM_single_95 (by decide) (fun c_16 => ?_) (fun c_16 => ?_)
                · replace h := rz_t c_16 h
                  exact tM_single_113 F hC _ _ _ _ _ _ h hR (lv_sub hl [] rfl)
                · replace h := rz_f c_16 h
                  refine lv_aload_n hx hb dM_single_98 rfl (lv_at hl 1 rfl) ?_
                  refine lv_bipush (v := 14) hx hb dM_single_99 (by decide) ?_
                  refine lv_aload_n hx hb dM_single_101 rfl (lv_at hl 1 rfl) ?_
                  refine rg_getP hx hb hown hK hR hk_M 23 (by decide) kf_M_48 rfl c_11 dM_single_102 ?_
                  refine lv_iload_n hx hb dM_single_105 rfl (lv_at hl 0 rfl) ?_
                  rw [e_13]
                  obtain ⟨c_17, h⟩ := rz_chk h
                  refine rg_iald hx hb hK hR c_14 c_17 dM_single_106 ?_
                  obtain ⟨q_21, M_19, h_20, h⟩ := rz_c h
                  refine rc_V (rest := []) (As := [.int 14, .int (mI M_2 a_12 x_5.toNatClampNeg)]) hx hb (hl.1.trans hml.symm) hown hK hR hRm mfM_emit kl_M_86 hk_M rfl rfl c_11 (by simp [cat_rf, cat_i, cat_a, cat_l, cat_n]) (hC 81 _ _ _ _ h_20) dM_single_107 (fun v1 H locs cells slots ev hR => ?_) (fun x1 q1 ce1 H locs cells slots ex hR g1 g2 g3 => ?_)
                  · rcases h with ⟨v_18, ev2, h⟩ | ⟨e2, ee2, -⟩
                    · cases ev.symm.trans ev2
                      replace h := rz_v h
                      obtain ⟨rfl, h⟩ := h
                      dsimp only [Option.toList, List.cons_append, List.nil_append]
                      refine lv_goto (tgt := 116) hx hb dM_single_110 (by decide) ?_
                      exact tM_single_116 F hC a0 _ _ _ _ _ _ h hR (lv_sub hl [1] rfl)
                    · cases ev.symm.trans ee2
                  · rcases h with ⟨v2, ev2, -⟩ | ⟨e2, ee2, h⟩
                    · cases ex.symm.trans ev2
                    · cases ex.symm.trans ee2
                      cases h
                      exact rt_x hlk hex hR g1 g2 g3
            · replace h := rz_t c_9 h
              exact tM_single_63 F hC a0 x1 _ _ _ _ _ _ h hR (lv_sub hl [1, 2] rfl)
        · replace h := rz_t c_7 h
          refine lv_aload_n hx hb dM_single_34 rfl (lv_at hl 1 rfl) ?_
          refine lv_bipush (v := 10) hx hb dM_single_35 (by decide) ?_
          obtain ⟨c_22, h⟩ := rz_chk h
          obtain ⟨q_26, M_24, h_25, h⟩ := rz_c h
          refine rc_V (rest := []) (As := [.int 10]) hx hb (hl.1.trans hml.symm) hown hK hR hRm mfM_deeper kl_M_90 hk_M rfl rfl c_22 (by simp [cat_rf, cat_i, cat_a, cat_l, cat_n]) (hC 74 _ _ _ _ h_25) dM_single_37 (fun v1 H locs cells slots ev hR => ?_) (fun x1 q1 ce1 H locs cells slots ex hR g1 g2 g3 => ?_)
          · rcases h with ⟨v_23, ev2, h⟩ | ⟨e2, ee2, -⟩
            · cases ev.symm.trans ev2
              replace h := rz_i h
              obtain ⟨x_27, rfl, h⟩ := h
              dsimp only [Option.toList, List.cons_append, List.nil_append]
              refine lv_if_eq (tgt := 48) hx hb dM_single_40 (by decide) (fun c_28 => ?_) (fun c_28 => ?_)
              · replace h := rz_t c_28 h
                refine lv_bipush (v := 10) hx hb dM_single_48 (by decide) ?_
                exact tM_single_50 F hC 10 _ _ _ _ _ _ h hR (lv_sub hl [] rfl)
              · replace h := rz_f c_28 h
                refine lv_bipush (v := 8) hx hb dM_single_43 (by decide) ?_
                refine lv_goto (tgt := 50) hx hb dM_single_45 (by decide) ?_
                exact tM_single_50 F hC 8 _ _ _ _ _ _ h hR (lv_sub hl [] rfl)
            · cases ev.symm.trans ee2
          · rcases h with ⟨v2, ev2, -⟩ | ⟨e2, ee2, h⟩
            · cases ex.symm.trans ev2
            · cases ex.symm.trans ee2
              cases h
              exact rt_x hlk hex hR g1 g2 g3
      · replace h := rz_t c_6 h
        refine lv_aload_n hx hb dM_single_11 rfl (lv_at hl 1 rfl) ?_
        refine lv_bipush (v := 9) hx hb dM_single_12 (by decide) ?_
        obtain ⟨c_29, h⟩ := rz_chk h
        obtain ⟨q_33, M_31, h_32, h⟩ := rz_c h
        refine rc_V (rest := []) (As := [.int 9]) hx hb (hl.1.trans hml.symm) hown hK hR hRm mfM_deeper kl_M_90 hk_M rfl rfl c_29 (by simp [cat_rf, cat_i, cat_a, cat_l, cat_n]) (hC 74 _ _ _ _ h_32) dM_single_14 (fun v1 H locs cells slots ev hR => ?_) (fun x1 q1 ce1 H locs cells slots ex hR g1 g2 g3 => ?_)
        · rcases h with ⟨v_30, ev2, h⟩ | ⟨e2, ee2, -⟩
          · cases ev.symm.trans ev2
            replace h := rz_i h
            obtain ⟨x_34, rfl, h⟩ := h
            dsimp only [Option.toList, List.cons_append, List.nil_append]
            refine lv_if_eq (tgt := 25) hx hb dM_single_17 (by decide) (fun c_35 => ?_) (fun c_35 => ?_)
            · replace h := rz_t c_35 h
              refine lv_bipush (v := 10) hx hb dM_single_25 (by decide) ?_
              exact tM_single_27 F hC 10 _ _ _ _ _ _ h hR (lv_sub hl [] rfl)
            · replace h := rz_f c_35 h
              refine lv_bipush (v := 8) hx hb dM_single_20 (by decide) ?_
              refine lv_goto (tgt := 27) hx hb dM_single_22 (by decide) ?_
              exact tM_single_27 F hC 8 _ _ _ _ _ _ h hR (lv_sub hl [] rfl)
          · cases ev.symm.trans ee2
        · rcases h with ⟨v2, ev2, -⟩ | ⟨e2, ee2, h⟩
          · cases ex.symm.trans ev2
          · cases ex.symm.trans ee2
            cases h
            exact rt_x hlk hex hR g1 g2 g3
    · cases ev.symm.trans ee2
  · rcases h with ⟨v2, ev2, -⟩ | ⟨e2, ee2, h⟩
    · cases ex.symm.trans ev2
    · cases ex.symm.trans ee2
      cases h
      exact rt_x hlk hex hR g1 g2 g3
set_option maxRecDepth 100000 in
set_option maxHeartbeats 4000000 in
theorem sM_single {l : Launch} {G : Gx} {n d : Nat} {C : Cx} (hC : CBs l G d C) (a0 : Nat) (x1 : Int32) {M M' : Mem} {r : Option Value ⊕ Nat} (h : fM_single_0 n d C a0 x1 M = some (r, M')) : CB l G (d + 1) yM_single [.ref a0, .int x1] M r M' := by
  intro p e R s m below meth c hx hn hm hc hlk hK hR hcap hS hU hfr hlo hrc hrs
  obtain ⟨hb, hml, hrt, hex, hown⟩ := fx_of hn hm hc (hK.w mfM_single.2.2.1 rfl #[])
  have F : FX p s m meth c G R M d "HeadCountModel" bM_single 3 (some .int) := ⟨hx, hb, hml, hown, hrt, hlk, hex, hK, hfr, hlo, by rw [← hcap]; exact hrc, hrs⟩
  rw [hml]
  have hl := lv_entry ([.ref a0, .int x1]) (n := 3) (by simp [lg_sl, cat_rf, cat_i, cat_a, cat_l, cat_n])
  rw [lg_entry_eq]
  generalize (lg_sl ([.ref a0, .int x1]) ++ List.replicate (3 - (lg_sl ([.ref a0, .int x1])).length) Slot.unset).toArray = ls at hl ⊢
  have hl : lv_has ls 3 [(0, .ref a0), (1, .int x1)] := by simpa [lv_args, cat_rf, cat_i, cat_a, cat_l, cat_n] using hl
  exact tM_single_0 F hC a0 x1 _ _ _ _ _ _ h (RL.start hR hcap hS hU) (lv_sub hl [0, 1] rfl)
def fM_wholeSingle_0 (n d : Nat) (C : Cx) : Nat → Nat → Mem → Rz
  | 0, _, _ => none
  | w + 1, a0, M => if mK M a0 = 5 then (rzC (C 85 [.ref a0] M) fun v_2 M_3 => (rzI v_2 fun x_6 => (if x_6 = 9 then (if mK M_3 a0 = 5 then (rzC (C 81 [.ref a0, .int 9, .int 0] M_3) fun v_31 M_32 => (rzV v_31 (if mK M_32 a0 = 5 then (rzC (C 86 [.ref a0] M_32) fun v_36 M_37 => (rzV v_36 (fM_wholeSingle_0 n d C w a0 M_37))) else none))) else none) else (if mK M_3 a0 = 5 then (rzC (C 85 [.ref a0] M_3) fun v_9 M_10 => (rzI v_9 fun x_13 => (if x_13 = 11 then (if mK M_10 a0 = 5 then (rzC (C 81 [.ref a0, .int 11, .int 0] M_10) fun v_16 M_17 => (rzV v_16 (if mK M_17 a0 = 5 then (rzC (C 86 [.ref a0] M_17) fun v_21 M_22 => (rzV v_21 (if mK M_22 a0 = 5 then (rzC (C 82 [.ref a0] M_22) fun v_26 M_27 => (rzV v_26 (some (.inl (some (.int 7)), M_27)))) else none))) else none))) else none) else (some (.inl (some (.int 9)), M_10))))) else none)))) else none
set_option maxRecDepth 100000 in
set_option maxHeartbeats 4000000 in
theorem tM_wholeSingle_0 {n : Nat} (F : FX p s m meth c G R M0 d "HeadCountModel" bM_wholeSingle 1 (some .int)) (hC : CBs l G d C) : ∀ (w : Nat) (a0 : Nat) (M : Mem) (H : Heap) (locs : List Loc) (cells slots : Nat) (ls : Array Slot), fM_wholeSingle_0 n d C w a0 M = some (r, M') → RL G M0 M H locs cells slots → lv_has ls 1 [(0, .ref a0)] → W p l e R s m args below meth c H locs cells slots (CQ G below s M0 r M') (F0 m 0 ls []) := by
  obtain ⟨hx, hb, hml, hown, hrt, hlk, hex, hK, hRm⟩ := id F
  intro w
  induction w with
  | zero => intro a0 M H locs cells slots ls h; cases h
  | succ w ih =>
    intro a0 M H locs cells slots ls h hR hl
    rw [fM_wholeSingle_0] at h
    refine lv_aload_n hx hb dM_wholeSingle_0 rfl (lv_at hl 0 rfl) ?_
    obtain ⟨c_1, h⟩ := rz_chk h
    obtain ⟨q_5, M_3, h_4, h⟩ := rz_c h
    refine rc_V (rest := []) (As := []) hx hb (hl.1.trans hml.symm) hown hK hR hRm mfM_upper kl_M_82 hk_M rfl rfl c_1 (by simp [cat_rf, cat_i, cat_a, cat_l, cat_n]) (hC 85 _ _ _ _ h_4) dM_wholeSingle_1 (fun v1 H locs cells slots ev hR => ?_) (fun x1 q1 ce1 H locs cells slots ex hR g1 g2 g3 => ?_)
    · rcases h with ⟨v_2, ev2, h⟩ | ⟨e2, ee2, -⟩
      · cases ev.symm.trans ev2
        replace h := rz_i h
        obtain ⟨x_6, rfl, h⟩ := h
        dsimp only [Option.toList, List.cons_append, List.nil_append]
        refine lv_bipush (v := 9) hx hb dM_wholeSingle_4 (by decide) ?_
        refine lv_icmp_ne (tgt := 23) hx hb dM_wholeSingle_6 (by decide) (fun c_7 => ?_) (fun c_7 => ?_)
        · replace h := rz_f c_7 h
          refine lv_aload_n hx hb dM_wholeSingle_23 rfl (lv_at hl 0 rfl) ?_
          obtain ⟨c_8, h⟩ := rz_chk h
          obtain ⟨q_12, M_10, h_11, h⟩ := rz_c h
          refine rc_V (rest := []) (As := []) hx hb (hl.1.trans hml.symm) hown hK hR hRm mfM_upper kl_M_82 hk_M rfl rfl c_8 (by simp [cat_rf, cat_i, cat_a, cat_l, cat_n]) (hC 85 _ _ _ _ h_11) dM_wholeSingle_24 (fun v1 H locs cells slots ev hR => ?_) (fun x1 q1 ce1 H locs cells slots ex hR g1 g2 g3 => ?_)
          · rcases h with ⟨v_9, ev2, h⟩ | ⟨e2, ee2, -⟩
            · cases ev.symm.trans ev2
              replace h := rz_i h
              obtain ⟨x_13, rfl, h⟩ := h
              dsimp only [Option.toList, List.cons_append, List.nil_append]
              refine lv_bipush (v := 11) hx hb dM_wholeSingle_27 (by decide) ?_
              refine lv_icmp_eq (tgt := 35) hx hb dM_wholeSingle_29 (by decide) (fun c_14 => ?_) (fun c_14 => ?_)
              · replace h := rz_t c_14 h
                refine lv_aload_n hx hb dM_wholeSingle_35 rfl (lv_at hl 0 rfl) ?_
                refine lv_bipush (v := 11) hx hb dM_wholeSingle_36 (by decide) ?_
                refine lv_iconst (v := 0) hx hb dM_wholeSingle_38 (by decide) ?_
                obtain ⟨c_15, h⟩ := rz_chk h
                obtain ⟨q_19, M_17, h_18, h⟩ := rz_c h
                refine rc_V (rest := []) (As := [.int 11, .int 0]) hx hb (hl.1.trans hml.symm) hown hK hR hRm mfM_emit kl_M_86 hk_M rfl rfl c_15 (by simp [cat_rf, cat_i, cat_a, cat_l, cat_n]) (hC 81 _ _ _ _ h_18) dM_wholeSingle_39 (fun v1 H locs cells slots ev hR => ?_) (fun x1 q1 ce1 H locs cells slots ex hR g1 g2 g3 => ?_)
                · rcases h with ⟨v_16, ev2, h⟩ | ⟨e2, ee2, -⟩
                  · cases ev.symm.trans ev2
                    replace h := rz_v h
                    obtain ⟨rfl, h⟩ := h
                    dsimp only [Option.toList, List.cons_append, List.nil_append]
                    refine lv_aload_n hx hb dM_wholeSingle_42 rfl (lv_at hl 0 rfl) ?_
                    obtain ⟨c_20, h⟩ := rz_chk h
                    obtain ⟨q_24, M_22, h_23, h⟩ := rz_c h
                    refine rc_V (rest := []) (As := []) hx hb (hl.1.trans hml.symm) hown hK hR hRm mfM_close kl_M_111 hk_M rfl rfl c_20 (by simp [cat_rf, cat_i, cat_a, cat_l, cat_n]) (hC 86 _ _ _ _ h_23) dM_wholeSingle_43 (fun v1 H locs cells slots ev hR => ?_) (fun x1 q1 ce1 H locs cells slots ex hR g1 g2 g3 => ?_)
                    · rcases h with ⟨v_21, ev2, h⟩ | ⟨e2, ee2, -⟩
                      · cases ev.symm.trans ev2
                        replace h := rz_v h
                        obtain ⟨rfl, h⟩ := h
                        dsimp only [Option.toList, List.cons_append, List.nil_append]
                        refine lv_aload_n hx hb dM_wholeSingle_46 rfl (lv_at hl 0 rfl) ?_
                        obtain ⟨c_25, h⟩ := rz_chk h
                        obtain ⟨q_29, M_27, h_28, h⟩ := rz_c h
                        refine rc_V (rest := []) (As := []) hx hb (hl.1.trans hml.symm) hown hK hR hRm mfM_wholePart kl_M_154 hk_M rfl rfl c_25 (by simp [cat_rf, cat_i, cat_a, cat_l, cat_n]) (hC 82 _ _ _ _ h_28) dM_wholeSingle_47 (fun v1 H locs cells slots ev hR => ?_) (fun x1 q1 ce1 H locs cells slots ex hR g1 g2 g3 => ?_)
                        · rcases h with ⟨v_26, ev2, h⟩ | ⟨e2, ee2, -⟩
                          · cases ev.symm.trans ev2
                            replace h := rz_v h
                            obtain ⟨rfl, h⟩ := h
                            dsimp only [Option.toList, List.cons_append, List.nil_append]
                            refine lv_bipush (v := 7) hx hb dM_wholeSingle_50 (by decide) ?_
                            cases h
                            exact rt_i hx hb hlk hrt (Or.inl rfl) rfl hR dM_wholeSingle_52
                          · cases ev.symm.trans ee2
                        · rcases h with ⟨v2, ev2, -⟩ | ⟨e2, ee2, h⟩
                          · cases ex.symm.trans ev2
                          · cases ex.symm.trans ee2
                            cases h
                            exact rt_x hlk hex hR g1 g2 g3
                      · cases ev.symm.trans ee2
                    · rcases h with ⟨v2, ev2, -⟩ | ⟨e2, ee2, h⟩
                      · cases ex.symm.trans ev2
                      · cases ex.symm.trans ee2
                        cases h
                        exact rt_x hlk hex hR g1 g2 g3
                  · cases ev.symm.trans ee2
                · rcases h with ⟨v2, ev2, -⟩ | ⟨e2, ee2, h⟩
                  · cases ex.symm.trans ev2
                  · cases ex.symm.trans ee2
                    cases h
                    exact rt_x hlk hex hR g1 g2 g3
              · replace h := rz_f c_14 h
                refine lv_bipush (v := 9) hx hb dM_wholeSingle_32 (by decide) ?_
                cases h
                exact rt_i hx hb hlk hrt (Or.inl rfl) rfl hR dM_wholeSingle_34
            · cases ev.symm.trans ee2
          · rcases h with ⟨v2, ev2, -⟩ | ⟨e2, ee2, h⟩
            · cases ex.symm.trans ev2
            · cases ex.symm.trans ee2
              cases h
              exact rt_x hlk hex hR g1 g2 g3
        · replace h := rz_t c_7 h
          refine lv_aload_n hx hb dM_wholeSingle_9 rfl (lv_at hl 0 rfl) ?_
          refine lv_bipush (v := 9) hx hb dM_wholeSingle_10 (by decide) ?_
          refine lv_iconst (v := 0) hx hb dM_wholeSingle_12 (by decide) ?_
          obtain ⟨c_30, h⟩ := rz_chk h
          obtain ⟨q_34, M_32, h_33, h⟩ := rz_c h
          refine rc_V (rest := []) (As := [.int 9, .int 0]) hx hb (hl.1.trans hml.symm) hown hK hR hRm mfM_emit kl_M_86 hk_M rfl rfl c_30 (by simp [cat_rf, cat_i, cat_a, cat_l, cat_n]) (hC 81 _ _ _ _ h_33) dM_wholeSingle_13 (fun v1 H locs cells slots ev hR => ?_) (fun x1 q1 ce1 H locs cells slots ex hR g1 g2 g3 => ?_)
          · rcases h with ⟨v_31, ev2, h⟩ | ⟨e2, ee2, -⟩
            · cases ev.symm.trans ev2
              replace h := rz_v h
              obtain ⟨rfl, h⟩ := h
              dsimp only [Option.toList, List.cons_append, List.nil_append]
              refine lv_aload_n hx hb dM_wholeSingle_16 rfl (lv_at hl 0 rfl) ?_
              obtain ⟨c_35, h⟩ := rz_chk h
              obtain ⟨q_39, M_37, h_38, h⟩ := rz_c h
              refine rc_V (rest := []) (As := []) hx hb (hl.1.trans hml.symm) hown hK hR hRm mfM_close kl_M_111 hk_M rfl rfl c_35 (by simp [cat_rf, cat_i, cat_a, cat_l, cat_n]) (hC 86 _ _ _ _ h_38) dM_wholeSingle_17 (fun v1 H locs cells slots ev hR => ?_) (fun x1 q1 ce1 H locs cells slots ex hR g1 g2 g3 => ?_)
              · rcases h with ⟨v_36, ev2, h⟩ | ⟨e2, ee2, -⟩
                · cases ev.symm.trans ev2
                  replace h := rz_v h
                  obtain ⟨rfl, h⟩ := h
                  dsimp only [Option.toList, List.cons_append, List.nil_append]
                  refine lv_goto (tgt := 0) hx hb dM_wholeSingle_20 (by decide) ?_
                  exact ih a0 _ _ _ _ _ _ h hR (lv_sub hl [0] rfl)
                · cases ev.symm.trans ee2
              · rcases h with ⟨v2, ev2, -⟩ | ⟨e2, ee2, h⟩
                · cases ex.symm.trans ev2
                · cases ex.symm.trans ee2
                  cases h
                  exact rt_x hlk hex hR g1 g2 g3
            · cases ev.symm.trans ee2
          · rcases h with ⟨v2, ev2, -⟩ | ⟨e2, ee2, h⟩
            · cases ex.symm.trans ev2
            · cases ex.symm.trans ee2
              cases h
              exact rt_x hlk hex hR g1 g2 g3
      · cases ev.symm.trans ee2
    · rcases h with ⟨v2, ev2, -⟩ | ⟨e2, ee2, h⟩
      · cases ex.symm.trans ev2
      · cases ex.symm.trans ee2
        cases h
        exact rt_x hlk hex hR g1 g2 g3
set_option maxRecDepth 100000 in
set_option maxHeartbeats 4000000 in
theorem sM_wholeSingle {l : Launch} {G : Gx} {n d : Nat} {C : Cx} (hC : CBs l G d C) (a0 : Nat) {M M' : Mem} {r : Option Value ⊕ Nat} (h : fM_wholeSingle_0 n d C n a0 M = some (r, M')) : CB l G (d + 1) yM_wholeSingle [.ref a0] M r M' := by
  intro p e R s m below meth c hx hn hm hc hlk hK hR hcap hS hU hfr hlo hrc hrs
  obtain ⟨hb, hml, hrt, hex, hown⟩ := fx_of hn hm hc (hK.w mfM_wholeSingle.2.2.1 rfl #[])
  have F : FX p s m meth c G R M d "HeadCountModel" bM_wholeSingle 1 (some .int) := ⟨hx, hb, hml, hown, hrt, hlk, hex, hK, hfr, hlo, by rw [← hcap]; exact hrc, hrs⟩
  rw [hml]
  have hl := lv_entry ([.ref a0]) (n := 1) (by simp [lg_sl, cat_rf, cat_i, cat_a, cat_l, cat_n])
  rw [lg_entry_eq]
  generalize (lg_sl ([.ref a0]) ++ List.replicate (1 - (lg_sl ([.ref a0])).length) Slot.unset).toArray = ls at hl ⊢
  have hl : lv_has ls 1 [(0, .ref a0)] := by simpa [lv_args, cat_rf, cat_i, cat_a, cat_l, cat_n] using hl
  exact tM_wholeSingle_0 F hC n a0 _ _ _ _ _ _ h (RL.start hR hcap hS hU) (lv_sub hl [0] rfl)
def fM_afterSingle_128 (n d : Nat) (C : Cx) (xs0 : Int32) (M : Mem) : Rz := some (.inl (some (.int xs0)), M)
set_option maxRecDepth 100000 in
set_option maxHeartbeats 4000000 in
theorem tM_afterSingle_128 {n : Nat} (F : FX p s m meth c G R M0 d "HeadCountModel" bM_afterSingle 2 (some .int)) (hC : CBs l G d C) : ∀ (xs0 : Int32) (M : Mem) (H : Heap) (locs : List Loc) (cells slots : Nat) (ls : Array Slot), fM_afterSingle_128 n d C xs0 M = some (r, M') → RL G M0 M H locs cells slots → lv_has ls 2 [] → W p l e R s m args below meth c H locs cells slots (CQ G below s M0 r M') (F0 m 128 ls [.int xs0]) := by
  obtain ⟨hx, hb, hml, hown, hrt, hlk, hex, hK, hRm⟩ := id F
  intro xs0 M H locs cells slots ls h hR hl
  unfold fM_afterSingle_128 at h
  cases h
  exact rt_i hx hb hlk hrt (Or.inl rfl) rfl hR dM_afterSingle_128
def fM_afterSingle_111 (n d : Nat) (C : Cx) (a0 : Nat) (xs0 : Int32) (as1 : Nat) (M : Mem) : Rz := if mK M as1 = 5 then (rzM (setI M as1 33 xs0) fun M_2 => (if mK M_2 a0 = 5 then (if (mI M_2 a0 33) ≤ 0 then (fM_afterSingle_128 n d C 10 M_2) else (fM_afterSingle_128 n d C 8 M_2)) else none)) else none
set_option maxRecDepth 100000 in
set_option maxHeartbeats 4000000 in
theorem tM_afterSingle_111 {n : Nat} (F : FX p s m meth c G R M0 d "HeadCountModel" bM_afterSingle 2 (some .int)) (hC : CBs l G d C) : ∀ (a0 : Nat) (xs0 : Int32) (as1 : Nat) (M : Mem) (H : Heap) (locs : List Loc) (cells slots : Nat) (ls : Array Slot), fM_afterSingle_111 n d C a0 xs0 as1 M = some (r, M') → RL G M0 M H locs cells slots → lv_has ls 2 [(0, .ref a0)] → W p l e R s m args below meth c H locs cells slots (CQ G below s M0 r M') (F0 m 111 ls [.int xs0, .ref as1]) := by
  obtain ⟨hx, hb, hml, hown, hrt, hlk, hex, hK, hRm⟩ := id F
  intro a0 xs0 as1 M H locs cells slots ls h hR hl
  unfold fM_afterSingle_111 at h
  obtain ⟨c_1, h⟩ := rz_chk h
  obtain ⟨M_2, q_3, h⟩ := rz_m h
  refine rg_putI hx hb hown hK hR hk_M 33 (by decide) kf_M_101 rfl rfl (ty := .int) (by decide +kernel) (Or.inl rfl) rfl c_1 dM_afterSingle_111 (fun H locs hR => ?_)
  rw [← q_3] at hR
  have c_4 : mK M_2 as1 = 5 := by rw [q_3]; exact c_1
  refine lv_aload_n hx hb dM_afterSingle_114 rfl (lv_at hl 0 rfl) ?_
  obtain ⟨c_5, h⟩ := rz_chk h
  refine rg_getI hx hb hown hK hR hk_M 33 (by decide) kf_M_101 rfl c_5 dM_afterSingle_115 ?_
  refine lv_if_le (tgt := 126) hx hb dM_afterSingle_118 (by decide) (fun c_6 => ?_) (fun c_6 => ?_)
  · replace h := rz_t c_6 h
    refine lv_bipush (v := 10) hx hb dM_afterSingle_126 (by decide) ?_
    exact tM_afterSingle_128 F hC 10 _ _ _ _ _ _ h hR (lv_sub hl [] rfl)
  · replace h := rz_f c_6 h
    refine lv_bipush (v := 8) hx hb dM_afterSingle_121 (by decide) ?_
    refine lv_goto (tgt := 128) hx hb dM_afterSingle_123 (by decide) ?_
    exact tM_afterSingle_128 F hC 8 _ _ _ _ _ _ h hR (lv_sub hl [] rfl)
def fM_afterSingle_174 (n d : Nat) (C : Cx) (xs0 : Int32) (M : Mem) : Rz := some (.inl (some (.int xs0)), M)
set_option maxRecDepth 100000 in
set_option maxHeartbeats 4000000 in
theorem tM_afterSingle_174 {n : Nat} (F : FX p s m meth c G R M0 d "HeadCountModel" bM_afterSingle 2 (some .int)) (hC : CBs l G d C) : ∀ (xs0 : Int32) (M : Mem) (H : Heap) (locs : List Loc) (cells slots : Nat) (ls : Array Slot), fM_afterSingle_174 n d C xs0 M = some (r, M') → RL G M0 M H locs cells slots → lv_has ls 2 [] → W p l e R s m args below meth c H locs cells slots (CQ G below s M0 r M') (F0 m 174 ls [.int xs0]) := by
  obtain ⟨hx, hb, hml, hown, hrt, hlk, hex, hK, hRm⟩ := id F
  intro xs0 M H locs cells slots ls h hR hl
  unfold fM_afterSingle_174 at h
  cases h
  exact rt_i hx hb hlk hrt (Or.inl rfl) rfl hR dM_afterSingle_174
def fM_afterSingle_155 (n d : Nat) (C : Cx) (a0 : Nat) (x1 : Int32) (xs0 : Int32) (as1 : Nat) (M : Mem) : Rz := if mK M as1 = 5 then (rzC (C 81 [.ref as1, .int xs0, .int 0] M) fun v_2 M_3 => (rzV v_2 (if x1 = 93 then (if mK M_3 a0 = 5 then (rzC (C 87 [.ref a0] M_3) fun v_8 M_9 => (rzI v_8 fun x_12 => (fM_afterSingle_174 n d C x_12 M_9))) else none) else (fM_afterSingle_174 n d C 10 M_3)))) else none
set_option maxRecDepth 100000 in
set_option maxHeartbeats 4000000 in
theorem tM_afterSingle_155 {n : Nat} (F : FX p s m meth c G R M0 d "HeadCountModel" bM_afterSingle 2 (some .int)) (hC : CBs l G d C) : ∀ (a0 : Nat) (x1 : Int32) (xs0 : Int32) (as1 : Nat) (M : Mem) (H : Heap) (locs : List Loc) (cells slots : Nat) (ls : Array Slot), fM_afterSingle_155 n d C a0 x1 xs0 as1 M = some (r, M') → RL G M0 M H locs cells slots → lv_has ls 2 [(0, .ref a0), (1, .int x1)] → W p l e R s m args below meth c H locs cells slots (CQ G below s M0 r M') (F0 m 155 ls [.int xs0, .ref as1]) := by
  obtain ⟨hx, hb, hml, hown, hrt, hlk, hex, hK, hRm⟩ := id F
  intro a0 x1 xs0 as1 M H locs cells slots ls h hR hl
  unfold fM_afterSingle_155 at h
  refine lv_iconst (v := 0) hx hb dM_afterSingle_155 (by decide) ?_
  obtain ⟨c_1, h⟩ := rz_chk h
  obtain ⟨q_5, M_3, h_4, h⟩ := rz_c h
  refine rc_V (rest := []) (As := [.int xs0, .int 0]) hx hb (hl.1.trans hml.symm) hown hK hR hRm mfM_emit kl_M_86 hk_M rfl rfl c_1 (by simp [cat_rf, cat_i, cat_a, cat_l, cat_n]) (hC 81 _ _ _ _ h_4) dM_afterSingle_156 (fun v1 H locs cells slots ev hR => ?_) (fun x1 q1 ce1 H locs cells slots ex hR g1 g2 g3 => ?_)
  · rcases h with ⟨v_2, ev2, h⟩ | ⟨e2, ee2, -⟩
    · cases ev.symm.trans ev2
      replace h := rz_v h
      obtain ⟨rfl, h⟩ := h
      dsimp only [Option.toList, List.cons_append, List.nil_append]
      refine lv_iload_n hx hb dM_afterSingle_159 rfl (lv_at hl 1 rfl) ?_
      refine lv_bipush (v := 93) hx hb dM_afterSingle_160 (by decide) ?_
      refine lv_icmp_ne (tgt := 172) hx hb dM_afterSingle_162 (by decide) (fun c_6 => ?_) (fun c_6 => ?_)
      · replace h := rz_f c_6 h
        refine lv_bipush (v := 10) hx hb dM_afterSingle_172 (by decide) ?_
        exact tM_afterSingle_174 F hC 10 _ _ _ _ _ _ h hR (lv_sub hl [] rfl)
      · replace h := rz_t c_6 h
        refine lv_aload_n hx hb dM_afterSingle_165 rfl (lv_at hl 0 rfl) ?_
        obtain ⟨c_7, h⟩ := rz_chk h
        obtain ⟨q_11, M_9, h_10, h⟩ := rz_c h
        refine rc_V (rest := []) (As := []) hx hb (hl.1.trans hml.symm) hown hK hR hRm mfM_wholeOne kl_M_117 hk_M rfl rfl c_7 (by simp [cat_rf, cat_i, cat_a, cat_l, cat_n]) (hC 87 _ _ _ _ h_10) dM_afterSingle_166 (fun v1 H locs cells slots ev hR => ?_) (fun x1 q1 ce1 H locs cells slots ex hR g1 g2 g3 => ?_)
        · rcases h with ⟨v_8, ev2, h⟩ | ⟨e2, ee2, -⟩
          · cases ev.symm.trans ev2
            replace h := rz_i h
            obtain ⟨x_12, rfl, h⟩ := h
            dsimp only [Option.toList, List.cons_append, List.nil_append]
            refine lv_goto (tgt := 174) hx hb dM_afterSingle_169 (by decide) ?_
            exact tM_afterSingle_174 F hC x_12 _ _ _ _ _ _ h hR (lv_sub hl [] rfl)
          · cases ev.symm.trans ee2
        · rcases h with ⟨v2, ev2, -⟩ | ⟨e2, ee2, h⟩
          · cases ex.symm.trans ev2
          · cases ex.symm.trans ee2
            cases h
            exact rt_x hlk hex hR g1 g2 g3
    · cases ev.symm.trans ee2
  · rcases h with ⟨v2, ev2, -⟩ | ⟨e2, ee2, h⟩
    · cases ex.symm.trans ev2
    · cases ex.symm.trans ee2
      cases h
      exact rt_x hlk hex hR g1 g2 g3
def fM_afterSingle_70 (n d : Nat) (C : Cx) (a0 : Nat) (x1 : Int32) (M : Mem) : Rz := if mK M a0 = 5 then (rzC (C 85 [.ref a0] M) fun v_2 M_3 => (rzI v_2 fun x_6 => (if x_6 = 6 then (if mK M_3 a0 = 5 then (if (mI M_3 a0 33) = 0 then (if x1 = 60 then (fM_afterSingle_111 n d C a0 1 a0 M_3) else (if x1 = 61 then (fM_afterSingle_111 n d C a0 2 a0 M_3) else (fM_afterSingle_111 n d C a0 0 a0 M_3))) else (rzM (setI M_3 a0 19 ((mI M_3 a0 19) - 1)) fun M_10 => (if (mI M_10 a0 33) = 1 then (fM_afterSingle_155 n d C a0 x1 22 a0 M_10) else (fM_afterSingle_155 n d C a0 x1 20 a0 M_10)))) else none) else (some (.inl (some (.int 10)), M_3))))) else none
set_option maxRecDepth 100000 in
set_option maxHeartbeats 4000000 in
theorem tM_afterSingle_70 {n : Nat} (F : FX p s m meth c G R M0 d "HeadCountModel" bM_afterSingle 2 (some .int)) (hC : CBs l G d C) : ∀ (a0 : Nat) (x1 : Int32) (M : Mem) (H : Heap) (locs : List Loc) (cells slots : Nat) (ls : Array Slot), fM_afterSingle_70 n d C a0 x1 M = some (r, M') → RL G M0 M H locs cells slots → lv_has ls 2 [(0, .ref a0), (1, .int x1)] → W p l e R s m args below meth c H locs cells slots (CQ G below s M0 r M') (F0 m 70 ls []) := by
  obtain ⟨hx, hb, hml, hown, hrt, hlk, hex, hK, hRm⟩ := id F
  intro a0 x1 M H locs cells slots ls h hR hl
  unfold fM_afterSingle_70 at h
  refine lv_aload_n hx hb dM_afterSingle_70 rfl (lv_at hl 0 rfl) ?_
  obtain ⟨c_1, h⟩ := rz_chk h
  obtain ⟨q_5, M_3, h_4, h⟩ := rz_c h
  refine rc_V (rest := []) (As := []) hx hb (hl.1.trans hml.symm) hown hK hR hRm mfM_upper kl_M_82 hk_M rfl rfl c_1 (by simp [cat_rf, cat_i, cat_a, cat_l, cat_n]) (hC 85 _ _ _ _ h_4) dM_afterSingle_71 (fun v1 H locs cells slots ev hR => ?_) (fun x1 q1 ce1 H locs cells slots ex hR g1 g2 g3 => ?_)
  · rcases h with ⟨v_2, ev2, h⟩ | ⟨e2, ee2, -⟩
    · cases ev.symm.trans ev2
      replace h := rz_i h
      obtain ⟨x_6, rfl, h⟩ := h
      dsimp only [Option.toList, List.cons_append, List.nil_append]
      refine lv_bipush (v := 6) hx hb dM_afterSingle_74 (by decide) ?_
      refine lv_icmp_eq (tgt := 82) hx hb dM_afterSingle_76 (by decide) (fun c_7 => ?_) (fun c_7 => ?_)
      · replace h := rz_t c_7 h
        refine lv_aload_n hx hb dM_afterSingle_82 rfl (lv_at hl 0 rfl) ?_
        obtain ⟨c_8, h⟩ := rz_chk h
        refine rg_getI hx hb hown hK hR hk_M 33 (by decide) kf_M_101 rfl c_8 dM_afterSingle_83 ?_
        refine lv_if_ne (tgt := 129) hx hb dM_afterSingle_86 (by decide) (fun c_9 => ?_) (fun c_9 => ?_)
        · replace h := rz_f c_9 h
          refine lv_aload_n hx hb dM_afterSingle_129 rfl (lv_at hl 0 rfl) ?_
          refine lv_dup hx hb dM_afterSingle_130 rfl ?_
          refine rg_getI hx hb hown hK hR hk_M 19 (by decide) kf_M_72 rfl c_8 dM_afterSingle_131 ?_
          refine lv_iconst (v := 1) hx hb dM_afterSingle_134 (by decide) ?_
          refine lv_isub hx hb dM_afterSingle_135 ?_
          obtain ⟨M_10, q_11, h⟩ := rz_m h
          refine rg_putI hx hb hown hK hR hk_M 19 (by decide) kf_M_72 rfl rfl (ty := .int) (by decide +kernel) (Or.inl rfl) rfl c_8 dM_afterSingle_136 (fun H locs hR => ?_)
          rw [← q_11] at hR
          have c_12 : mK M_10 a0 = 5 := by rw [q_11]; exact c_8
          refine lv_aload_n hx hb dM_afterSingle_139 rfl (lv_at hl 0 rfl) ?_
          refine lv_aload_n hx hb dM_afterSingle_140 rfl (lv_at hl 0 rfl) ?_
          refine rg_getI hx hb hown hK hR hk_M 33 (by decide) kf_M_101 rfl c_12 dM_afterSingle_141 ?_
          refine lv_iconst (v := 1) hx hb dM_afterSingle_144 (by decide) ?_
          refine lv_icmp_ne (tgt := 153) hx hb dM_afterSingle_145 (by decide) (fun c_13 => ?_) (fun c_13 => ?_)
          · replace h := rz_f c_13 h
            refine lv_bipush (v := 20) hx hb dM_afterSingle_153 (by decide) ?_
            exact tM_afterSingle_155 F hC a0 x1 20 a0 _ _ _ _ _ _ h hR (lv_sub hl [0, 1] rfl)
          · replace h := rz_t c_13 h
            refine lv_bipush (v := 22) hx hb dM_afterSingle_148 (by decide) ?_
            refine lv_goto (tgt := 155) hx hb dM_afterSingle_150 (by decide) ?_
            exact tM_afterSingle_155 F hC a0 x1 22 a0 _ _ _ _ _ _ h hR (lv_sub hl [0, 1] rfl)
        · replace h := rz_t c_9 h
          refine lv_aload_n hx hb dM_afterSingle_89 rfl (lv_at hl 0 rfl) ?_
          refine lv_iload_n hx hb dM_afterSingle_90 rfl (lv_at hl 1 rfl) ?_
          refine lv_bipush (v := 60) hx hb dM_afterSingle_91 (by decide) ?_
          refine lv_icmp_ne (tgt := 100) hx hb dM_afterSingle_93 (by decide) (fun c_14 => ?_) (fun c_14 => ?_)
          · replace h := rz_f c_14 h
            refine lv_iload_n hx hb dM_afterSingle_100 rfl (lv_at hl 1 rfl) ?_
            refine lv_bipush (v := 61) hx hb dM_afterSingle_101 (by decide) ?_
            refine lv_icmp_ne (tgt := 110) hx hb dM_afterSingle_103 (by decide) (fun c_15 => ?_) (fun c_15 => ?_)
            · replace h := rz_f c_15 h
              refine lv_iconst (v := 0) hx hb dM_afterSingle_110 (by decide) ?_
              exact tM_afterSingle_111 F hC a0 0 a0 _ _ _ _ _ _ h hR (lv_sub hl [0] rfl)
            · replace h := rz_t c_15 h
              refine lv_iconst (v := 2) hx hb dM_afterSingle_106 (by decide) ?_
              refine lv_goto (tgt := 111) hx hb dM_afterSingle_107 (by decide) ?_
              exact tM_afterSingle_111 F hC a0 2 a0 _ _ _ _ _ _ h hR (lv_sub hl [0] rfl)
          · replace h := rz_t c_14 h
            refine lv_iconst (v := 1) hx hb dM_afterSingle_96 (by decide) ?_
            refine lv_goto (tgt := 111) hx hb dM_afterSingle_97 (by decide) ?_
            exact tM_afterSingle_111 F hC a0 1 a0 _ _ _ _ _ _ h hR (lv_sub hl [0] rfl)
      · replace h := rz_f c_7 h
        refine lv_bipush (v := 10) hx hb dM_afterSingle_79 (by decide) ?_
        cases h
        exact rt_i hx hb hlk hrt (Or.inl rfl) rfl hR dM_afterSingle_81
    · cases ev.symm.trans ee2
  · rcases h with ⟨v2, ev2, -⟩ | ⟨e2, ee2, h⟩
    · cases ex.symm.trans ev2
    · cases ex.symm.trans ee2
      cases h
      exact rt_x hlk hex hR g1 g2 g3
def fM_afterSingle_0 (n d : Nat) (C : Cx) (a0 : Nat) (x1 : Int32) (M : Mem) : Rz := if x1 = 42 then (if mK M a0 = 5 then (rzC (C 84 [.ref a0, .int 8, .int 8] M) fun v_33 M_34 => (rzV v_33 (if mK M_34 a0 = 5 then (rzC (C 75 [.ref a0, .int 8] M_34) fun v_38 M_39 => (rzV v_38 (some (.inl (some (.int 8)), M_39)))) else none))) else none) else (if mK M a0 = 5 then (rzC (C 84 [.ref a0, .int 8, .int 7] M) fun v_3 M_4 => (rzV v_3 (if x1 = 43 then (if mK M_4 a0 = 5 then (rzC (C 75 [.ref a0, .int 7] M_4) fun v_28 M_29 => (rzV v_28 (some (.inl (some (.int 8)), M_29)))) else none) else (if x1 = 41 then (if mK M_4 a0 = 5 then (rzC (C 85 [.ref a0] M_4) fun v_10 M_11 => (rzI v_10 fun x_14 => (if x_14 = 10 then (if mK M_11 a0 = 5 then (rzC (C 86 [.ref a0] M_11) fun v_17 M_18 => (rzV v_17 (if mK M_18 a0 = 5 then (rzC (C 92 [.ref a0] M_18) fun v_22 M_23 => (rzI v_22 fun x_26 => (some (.inl (some (.int x_26)), M_23)))) else none))) else none) else (fM_afterSingle_70 n d C a0 x1 M_11)))) else none) else (fM_afterSingle_70 n d C a0 x1 M_4))))) else none)
set_option maxRecDepth 100000 in
set_option maxHeartbeats 4000000 in
theorem tM_afterSingle_0 {n : Nat} (F : FX p s m meth c G R M0 d "HeadCountModel" bM_afterSingle 2 (some .int)) (hC : CBs l G d C) : ∀ (a0 : Nat) (x1 : Int32) (M : Mem) (H : Heap) (locs : List Loc) (cells slots : Nat) (ls : Array Slot), fM_afterSingle_0 n d C a0 x1 M = some (r, M') → RL G M0 M H locs cells slots → lv_has ls 2 [(0, .ref a0), (1, .int x1)] → W p l e R s m args below meth c H locs cells slots (CQ G below s M0 r M') (F0 m 0 ls []) := by
  obtain ⟨hx, hb, hml, hown, hrt, hlk, hex, hK, hRm⟩ := id F
  intro a0 x1 M H locs cells slots ls h hR hl
  unfold fM_afterSingle_0 at h
  refine lv_iload_n hx hb dM_afterSingle_0 rfl (lv_at hl 1 rfl) ?_
  refine lv_bipush (v := 42) hx hb dM_afterSingle_1 (by decide) ?_
  refine lv_icmp_ne (tgt := 23) hx hb dM_afterSingle_3 (by decide) (fun c_1 => ?_) (fun c_1 => ?_)
  · replace h := rz_f c_1 h
    refine lv_aload_n hx hb dM_afterSingle_23 rfl (lv_at hl 0 rfl) ?_
    refine lv_bipush (v := 8) hx hb dM_afterSingle_24 (by decide) ?_
    refine lv_bipush (v := 7) hx hb dM_afterSingle_26 (by decide) ?_
    obtain ⟨c_2, h⟩ := rz_chk h
    obtain ⟨q_6, M_4, h_5, h⟩ := rz_c h
    refine rc_V (rest := []) (As := [.int 8, .int 7]) hx hb (hl.1.trans hml.symm) hown hK hR hRm mfM_settle kl_M_114 hk_M rfl rfl c_2 (by simp [cat_rf, cat_i, cat_a, cat_l, cat_n]) (hC 84 _ _ _ _ h_5) dM_afterSingle_28 (fun v1 H locs cells slots ev hR => ?_) (fun x1 q1 ce1 H locs cells slots ex hR g1 g2 g3 => ?_)
    · rcases h with ⟨v_3, ev2, h⟩ | ⟨e2, ee2, -⟩
      · cases ev.symm.trans ev2
        replace h := rz_v h
        obtain ⟨rfl, h⟩ := h
        dsimp only [Option.toList, List.cons_append, List.nil_append]
        refine lv_iload_n hx hb dM_afterSingle_31 rfl (lv_at hl 1 rfl) ?_
        refine lv_bipush (v := 43) hx hb dM_afterSingle_32 (by decide) ?_
        refine lv_icmp_ne (tgt := 46) hx hb dM_afterSingle_34 (by decide) (fun c_7 => ?_) (fun c_7 => ?_)
        · replace h := rz_f c_7 h
          refine lv_iload_n hx hb dM_afterSingle_46 rfl (lv_at hl 1 rfl) ?_
          refine lv_bipush (v := 41) hx hb dM_afterSingle_47 (by decide) ?_
          refine lv_icmp_ne (tgt := 70) hx hb dM_afterSingle_49 (by decide) (fun c_8 => ?_) (fun c_8 => ?_)
          · replace h := rz_f c_8 h
            exact tM_afterSingle_70 F hC a0 x1 _ _ _ _ _ _ h hR (lv_sub hl [0, 1] rfl)
          · replace h := rz_t c_8 h
            refine lv_aload_n hx hb dM_afterSingle_52 rfl (lv_at hl 0 rfl) ?_
            obtain ⟨c_9, h⟩ := rz_chk h
            obtain ⟨q_13, M_11, h_12, h⟩ := rz_c h
            refine rc_V (rest := []) (As := []) hx hb (hl.1.trans hml.symm) hown hK hR hRm mfM_upper kl_M_82 hk_M rfl rfl c_9 (by simp [cat_rf, cat_i, cat_a, cat_l, cat_n]) (hC 85 _ _ _ _ h_12) dM_afterSingle_53 (fun v1 H locs cells slots ev hR => ?_) (fun x1 q1 ce1 H locs cells slots ex hR g1 g2 g3 => ?_)
            · rcases h with ⟨v_10, ev2, h⟩ | ⟨e2, ee2, -⟩
              · cases ev.symm.trans ev2
                replace h := rz_i h
                obtain ⟨x_14, rfl, h⟩ := h
                dsimp only [Option.toList, List.cons_append, List.nil_append]
                refine lv_bipush (v := 10) hx hb dM_afterSingle_56 (by decide) ?_
                refine lv_icmp_ne (tgt := 70) hx hb dM_afterSingle_58 (by decide) (fun c_15 => ?_) (fun c_15 => ?_)
                · replace h := rz_f c_15 h
                  exact tM_afterSingle_70 F hC a0 x1 _ _ _ _ _ _ h hR (lv_sub hl [0, 1] rfl)
                · replace h := rz_t c_15 h
                  refine lv_aload_n hx hb dM_afterSingle_61 rfl (lv_at hl 0 rfl) ?_
                  obtain ⟨c_16, h⟩ := rz_chk h
                  obtain ⟨q_20, M_18, h_19, h⟩ := rz_c h
                  refine rc_V (rest := []) (As := []) hx hb (hl.1.trans hml.symm) hown hK hR hRm mfM_close kl_M_111 hk_M rfl rfl c_16 (by simp [cat_rf, cat_i, cat_a, cat_l, cat_n]) (hC 86 _ _ _ _ h_19) dM_afterSingle_62 (fun v1 H locs cells slots ev hR => ?_) (fun x1 q1 ce1 H locs cells slots ex hR g1 g2 g3 => ?_)
                  · rcases h with ⟨v_17, ev2, h⟩ | ⟨e2, ee2, -⟩
                    · cases ev.symm.trans ev2
                      replace h := rz_v h
                      obtain ⟨rfl, h⟩ := h
                      dsimp only [Option.toList, List.cons_append, List.nil_append]
                      refine lv_aload_n hx hb dM_afterSingle_65 rfl (lv_at hl 0 rfl) ?_
                      obtain ⟨c_21, h⟩ := rz_chk h
                      obtain ⟨q_25, M_23, h_24, h⟩ := rz_c h
                      refine rc_V (rest := []) (As := []) hx hb (hl.1.trans hml.symm) hown hK hR hRm mfM_wholeSingle kl_M_163 hk_M rfl rfl c_21 (by simp [cat_rf, cat_i, cat_a, cat_l, cat_n]) (hC 92 _ _ _ _ h_24) dM_afterSingle_66 (fun v1 H locs cells slots ev hR => ?_) (fun x1 q1 ce1 H locs cells slots ex hR g1 g2 g3 => ?_)
                      · rcases h with ⟨v_22, ev2, h⟩ | ⟨e2, ee2, -⟩
                        · cases ev.symm.trans ev2
                          replace h := rz_i h
                          obtain ⟨x_26, rfl, h⟩ := h
                          dsimp only [Option.toList, List.cons_append, List.nil_append]
                          cases h
                          exact rt_i hx hb hlk hrt (Or.inl rfl) rfl hR dM_afterSingle_69
                        · cases ev.symm.trans ee2
                      · rcases h with ⟨v2, ev2, -⟩ | ⟨e2, ee2, h⟩
                        · cases ex.symm.trans ev2
                        · cases ex.symm.trans ee2
                          cases h
                          exact rt_x hlk hex hR g1 g2 g3
                    · cases ev.symm.trans ee2
                  · rcases h with ⟨v2, ev2, -⟩ | ⟨e2, ee2, h⟩
                    · cases ex.symm.trans ev2
                    · cases ex.symm.trans ee2
                      cases h
                      exact rt_x hlk hex hR g1 g2 g3
              · cases ev.symm.trans ee2
            · rcases h with ⟨v2, ev2, -⟩ | ⟨e2, ee2, h⟩
              · cases ex.symm.trans ev2
              · cases ex.symm.trans ee2
                cases h
                exact rt_x hlk hex hR g1 g2 g3
        · replace h := rz_t c_7 h
          refine lv_aload_n hx hb dM_afterSingle_37 rfl (lv_at hl 0 rfl) ?_
          refine lv_bipush (v := 7) hx hb dM_afterSingle_38 (by decide) ?_
          obtain ⟨c_27, h⟩ := rz_chk h
          obtain ⟨q_31, M_29, h_30, h⟩ := rz_c h
          refine rc_V (rest := []) (As := [.int 7]) hx hb (hl.1.trans hml.symm) hown hK hR hRm mfM_push kl_M_78 hk_M rfl rfl c_27 (by simp [cat_rf, cat_i, cat_a, cat_l, cat_n]) (hC 75 _ _ _ _ h_30) dM_afterSingle_40 (fun v1 H locs cells slots ev hR => ?_) (fun x1 q1 ce1 H locs cells slots ex hR g1 g2 g3 => ?_)
          · rcases h with ⟨v_28, ev2, h⟩ | ⟨e2, ee2, -⟩
            · cases ev.symm.trans ev2
              replace h := rz_v h
              obtain ⟨rfl, h⟩ := h
              dsimp only [Option.toList, List.cons_append, List.nil_append]
              refine lv_bipush (v := 8) hx hb dM_afterSingle_43 (by decide) ?_
              cases h
              exact rt_i hx hb hlk hrt (Or.inl rfl) rfl hR dM_afterSingle_45
            · cases ev.symm.trans ee2
          · rcases h with ⟨v2, ev2, -⟩ | ⟨e2, ee2, h⟩
            · cases ex.symm.trans ev2
            · cases ex.symm.trans ee2
              cases h
              exact rt_x hlk hex hR g1 g2 g3
      · cases ev.symm.trans ee2
    · rcases h with ⟨v2, ev2, -⟩ | ⟨e2, ee2, h⟩
      · cases ex.symm.trans ev2
      · cases ex.symm.trans ee2
        cases h
        exact rt_x hlk hex hR g1 g2 g3
  · replace h := rz_t c_1 h
    refine lv_aload_n hx hb dM_afterSingle_6 rfl (lv_at hl 0 rfl) ?_
    refine lv_bipush (v := 8) hx hb dM_afterSingle_7 (by decide) ?_
    refine lv_bipush (v := 8) hx hb dM_afterSingle_9 (by decide) ?_
    obtain ⟨c_32, h⟩ := rz_chk h
    obtain ⟨q_36, M_34, h_35, h⟩ := rz_c h
    refine rc_V (rest := []) (As := [.int 8, .int 8]) hx hb (hl.1.trans hml.symm) hown hK hR hRm mfM_settle kl_M_114 hk_M rfl rfl c_32 (by simp [cat_rf, cat_i, cat_a, cat_l, cat_n]) (hC 84 _ _ _ _ h_35) dM_afterSingle_11 (fun v1 H locs cells slots ev hR => ?_) (fun x1 q1 ce1 H locs cells slots ex hR g1 g2 g3 => ?_)
    · rcases h with ⟨v_33, ev2, h⟩ | ⟨e2, ee2, -⟩
      · cases ev.symm.trans ev2
        replace h := rz_v h
        obtain ⟨rfl, h⟩ := h
        dsimp only [Option.toList, List.cons_append, List.nil_append]
        refine lv_aload_n hx hb dM_afterSingle_14 rfl (lv_at hl 0 rfl) ?_
        refine lv_bipush (v := 8) hx hb dM_afterSingle_15 (by decide) ?_
        obtain ⟨c_37, h⟩ := rz_chk h
        obtain ⟨q_41, M_39, h_40, h⟩ := rz_c h
        refine rc_V (rest := []) (As := [.int 8]) hx hb (hl.1.trans hml.symm) hown hK hR hRm mfM_push kl_M_78 hk_M rfl rfl c_37 (by simp [cat_rf, cat_i, cat_a, cat_l, cat_n]) (hC 75 _ _ _ _ h_40) dM_afterSingle_17 (fun v1 H locs cells slots ev hR => ?_) (fun x1 q1 ce1 H locs cells slots ex hR g1 g2 g3 => ?_)
        · rcases h with ⟨v_38, ev2, h⟩ | ⟨e2, ee2, -⟩
          · cases ev.symm.trans ev2
            replace h := rz_v h
            obtain ⟨rfl, h⟩ := h
            dsimp only [Option.toList, List.cons_append, List.nil_append]
            refine lv_bipush (v := 8) hx hb dM_afterSingle_20 (by decide) ?_
            cases h
            exact rt_i hx hb hlk hrt (Or.inl rfl) rfl hR dM_afterSingle_22
          · cases ev.symm.trans ee2
        · rcases h with ⟨v2, ev2, -⟩ | ⟨e2, ee2, h⟩
          · cases ex.symm.trans ev2
          · cases ex.symm.trans ee2
            cases h
            exact rt_x hlk hex hR g1 g2 g3
      · cases ev.symm.trans ee2
    · rcases h with ⟨v2, ev2, -⟩ | ⟨e2, ee2, h⟩
      · cases ex.symm.trans ev2
      · cases ex.symm.trans ee2
        cases h
        exact rt_x hlk hex hR g1 g2 g3
set_option maxRecDepth 100000 in
set_option maxHeartbeats 4000000 in
theorem sM_afterSingle {l : Launch} {G : Gx} {n d : Nat} {C : Cx} (hC : CBs l G d C) (a0 : Nat) (x1 : Int32) {M M' : Mem} {r : Option Value ⊕ Nat} (h : fM_afterSingle_0 n d C a0 x1 M = some (r, M')) : CB l G (d + 1) yM_afterSingle [.ref a0, .int x1] M r M' := by
  intro p e R s m below meth c hx hn hm hc hlk hK hR hcap hS hU hfr hlo hrc hrs
  obtain ⟨hb, hml, hrt, hex, hown⟩ := fx_of hn hm hc (hK.w mfM_afterSingle.2.2.1 rfl #[])
  have F : FX p s m meth c G R M d "HeadCountModel" bM_afterSingle 2 (some .int) := ⟨hx, hb, hml, hown, hrt, hlk, hex, hK, hfr, hlo, by rw [← hcap]; exact hrc, hrs⟩
  rw [hml]
  have hl := lv_entry ([.ref a0, .int x1]) (n := 2) (by simp [lg_sl, cat_rf, cat_i, cat_a, cat_l, cat_n])
  rw [lg_entry_eq]
  generalize (lg_sl ([.ref a0, .int x1]) ++ List.replicate (2 - (lg_sl ([.ref a0, .int x1])).length) Slot.unset).toArray = ls at hl ⊢
  have hl : lv_has ls 2 [(0, .ref a0), (1, .int x1)] := by simpa [lv_args, cat_rf, cat_i, cat_a, cat_l, cat_n] using hl
  exact tM_afterSingle_0 F hC a0 x1 _ _ _ _ _ _ h (RL.start hR hcap hS hU) (lv_sub hl [0, 1] rfl)
end
