theorem kl_ini : Cond.initialized "HeadCountLaw" ∈ lw_tbl := List.mem_append_right _ (List.mem_of_getElem? (i := 0) (by decide +kernel))
theorem xc_1 : Cond.castable "java/lang/IllegalArgumentException" "java/lang/IllegalArgumentException" ∈ lw_tbl := List.mem_append_right _ (List.mem_of_getElem? (i := 164) (by decide +kernel))
theorem xc_2 : Cond.castable "java/lang/IllegalStateException" "java/lang/IllegalStateException" ∈ lw_tbl := List.mem_append_right _ (List.mem_of_getElem? (i := 427) (by decide +kernel))
theorem dL_read_0 : decode bL_read 0 = .ok (.aload_n 1, 1) := by decide +kernel
theorem dL_read_1 : decode bL_read 1 = .ok (.iconst 0, 1) := by decide +kernel
theorem dL_read_2 : decode bL_read 2 = .ok (.aload_n 0, 1) := by decide +kernel
theorem dL_read_3 : decode bL_read 3 = .ok (.invokevirtual 7, 3) := by decide +kernel
theorem dL_read_6 : decode bL_read 6 = .ok (.i2l, 1) := by decide +kernel
theorem dL_read_7 : decode bL_read 7 = .ok (.lastore, 1) := by decide +kernel
theorem dL_read_8 : decode bL_read 8 = .ok (.goto 6, 3) := by decide +kernel
theorem dL_read_11 : decode bL_read 11 = .ok (.astore_n 2, 1) := by decide +kernel
theorem dL_read_12 : decode bL_read 12 = .ok (.iconst 1, 1) := by decide +kernel
theorem dL_read_13 : decode bL_read 13 = .ok (.ireturn, 1) := by decide +kernel
theorem dL_read_14 : decode bL_read 14 = .ok (.iconst 0, 1) := by decide +kernel
theorem dL_read_15 : decode bL_read 15 = .ok (.ireturn, 1) := by decide +kernel
theorem dL_holds_0 : decode bL_holds 0 = .ok (.aload_n 2, 1) := by decide +kernel
theorem dL_holds_1 : decode bL_holds 1 = .ok (.iconst 0, 1) := by decide +kernel
theorem dL_holds_2 : decode bL_holds 2 = .ok (.aload_n 0, 1) := by decide +kernel
theorem dL_holds_3 : decode bL_holds 3 = .ok (.iload_n 1, 1) := by decide +kernel
theorem dL_holds_4 : decode bL_holds 4 = .ok (.invokevirtual 15, 3) := by decide +kernel
theorem dL_holds_7 : decode bL_holds 7 = .ok (.ifCond .eq 7, 3) := by decide +kernel
theorem dL_holds_10 : decode bL_holds 10 = .ok (.lconst 1, 1) := by decide +kernel
theorem dL_holds_11 : decode bL_holds 11 = .ok (.goto 4, 3) := by decide +kernel
theorem dL_holds_14 : decode bL_holds 14 = .ok (.lconst 0, 1) := by decide +kernel
theorem dL_holds_15 : decode bL_holds 15 = .ok (.lastore, 1) := by decide +kernel
theorem dL_holds_16 : decode bL_holds 16 = .ok (.goto 9, 3) := by decide +kernel
theorem dL_holds_19 : decode bL_holds 19 = .ok (.astore_n 3, 1) := by decide +kernel
theorem dL_holds_20 : decode bL_holds 20 = .ok (.iconst 1, 1) := by decide +kernel
theorem dL_holds_21 : decode bL_holds 21 = .ok (.ireturn, 1) := by decide +kernel
theorem dL_holds_22 : decode bL_holds 22 = .ok (.astore_n 3, 1) := by decide +kernel
theorem dL_holds_23 : decode bL_holds 23 = .ok (.iconst 2, 1) := by decide +kernel
theorem dL_holds_24 : decode bL_holds 24 = .ok (.ireturn, 1) := by decide +kernel
theorem dL_holds_25 : decode bL_holds 25 = .ok (.iconst 0, 1) := by decide +kernel
theorem dL_holds_26 : decode bL_holds 26 = .ok (.ireturn, 1) := by decide +kernel
theorem dL_fails_0 : decode bL_fails 0 = .ok (.aload_n 1, 1) := by decide +kernel
theorem dL_fails_1 : decode bL_fails 1 = .ok (.iconst 0, 1) := by decide +kernel
theorem dL_fails_2 : decode bL_fails 2 = .ok (.aload_n 0, 1) := by decide +kernel
theorem dL_fails_3 : decode bL_fails 3 = .ok (.invokevirtual 21, 3) := by decide +kernel
theorem dL_fails_6 : decode bL_fails 6 = .ok (.i2l, 1) := by decide +kernel
theorem dL_fails_7 : decode bL_fails 7 = .ok (.lastore, 1) := by decide +kernel
theorem dL_fails_8 : decode bL_fails 8 = .ok (.goto 6, 3) := by decide +kernel
theorem dL_fails_11 : decode bL_fails 11 = .ok (.astore_n 2, 1) := by decide +kernel
theorem dL_fails_12 : decode bL_fails 12 = .ok (.iconst 1, 1) := by decide +kernel
theorem dL_fails_13 : decode bL_fails 13 = .ok (.ireturn, 1) := by decide +kernel
theorem dL_fails_14 : decode bL_fails 14 = .ok (.iconst 0, 1) := by decide +kernel
theorem dL_fails_15 : decode bL_fails 15 = .ok (.ireturn, 1) := by decide +kernel
theorem dL_ways_0 : decode bL_ways 0 = .ok (.aload_n 2, 1) := by decide +kernel
theorem dL_ways_1 : decode bL_ways 1 = .ok (.iconst 0, 1) := by decide +kernel
theorem dL_ways_2 : decode bL_ways 2 = .ok (.aload_n 0, 1) := by decide +kernel
theorem dL_ways_3 : decode bL_ways 3 = .ok (.iload_n 1, 1) := by decide +kernel
theorem dL_ways_4 : decode bL_ways 4 = .ok (.invokevirtual 24, 3) := by decide +kernel
theorem dL_ways_7 : decode bL_ways 7 = .ok (.i2l, 1) := by decide +kernel
theorem dL_ways_8 : decode bL_ways 8 = .ok (.lastore, 1) := by decide +kernel
theorem dL_ways_9 : decode bL_ways 9 = .ok (.goto 9, 3) := by decide +kernel
theorem dL_ways_12 : decode bL_ways 12 = .ok (.astore_n 3, 1) := by decide +kernel
theorem dL_ways_13 : decode bL_ways 13 = .ok (.iconst 1, 1) := by decide +kernel
theorem dL_ways_14 : decode bL_ways 14 = .ok (.ireturn, 1) := by decide +kernel
theorem dL_ways_15 : decode bL_ways 15 = .ok (.astore_n 3, 1) := by decide +kernel
theorem dL_ways_16 : decode bL_ways 16 = .ok (.iconst 2, 1) := by decide +kernel
theorem dL_ways_17 : decode bL_ways 17 = .ok (.ireturn, 1) := by decide +kernel
theorem dL_ways_18 : decode bL_ways 18 = .ok (.iconst 0, 1) := by decide +kernel
theorem dL_ways_19 : decode bL_ways 19 = .ok (.ireturn, 1) := by decide +kernel
theorem dL_law_0 : decode bL_law 0 = .ok (.new 8, 3) := by decide +kernel
theorem dL_law_3 : decode bL_law 3 = .ok (.dup, 1) := by decide +kernel
theorem dL_law_4 : decode bL_law 4 = .ok (.invokespecial 28, 3) := by decide +kernel
theorem dL_law_7 : decode bL_law 7 = .ok (.astore_n 1, 1) := by decide +kernel
theorem dL_law_8 : decode bL_law 8 = .ok (.new 29, 3) := by decide +kernel
theorem dL_law_11 : decode bL_law 11 = .ok (.dup, 1) := by decide +kernel
theorem dL_law_12 : decode bL_law 12 = .ok (.invokespecial 31, 3) := by decide +kernel
theorem dL_law_15 : decode bL_law 15 = .ok (.astore_n 2, 1) := by decide +kernel
theorem dL_law_16 : decode bL_law 16 = .ok (.iconst 1, 1) := by decide +kernel
theorem dL_law_17 : decode bL_law 17 = .ok (.newarray .long, 2) := by decide +kernel
theorem dL_law_19 : decode bL_law 19 = .ok (.astore_n 3, 1) := by decide +kernel
theorem dL_law_20 : decode bL_law 20 = .ok (.iconst 0, 1) := by decide +kernel
theorem dL_law_21 : decode bL_law 21 = .ok (.istore 4, 2) := by decide +kernel
theorem dL_law_23 : decode bL_law 23 = .ok (.iload 4, 2) := by decide +kernel
theorem dL_law_25 : decode bL_law 25 = .ok (.aload_n 0, 1) := by decide +kernel
theorem dL_law_26 : decode bL_law 26 = .ok (.arraylength, 1) := by decide +kernel
theorem dL_law_27 : decode bL_law 27 = .ok (.iconst 3, 1) := by decide +kernel
theorem dL_law_28 : decode bL_law 28 = .ok (.isub, 1) := by decide +kernel
theorem dL_law_29 : decode bL_law 29 = .ok (.if_icmp .gt 347, 3) := by decide +kernel
theorem dL_law_32 : decode bL_law 32 = .ok (.aload_n 0, 1) := by decide +kernel
theorem dL_law_33 : decode bL_law 33 = .ok (.iload 4, 2) := by decide +kernel
theorem dL_law_35 : decode bL_law 35 = .ok (.iaload, 1) := by decide +kernel
theorem dL_law_36 : decode bL_law 36 = .ok (.bipush 7, 2) := by decide +kernel
theorem dL_law_38 : decode bL_law 38 = .ok (.iand, 1) := by decide +kernel
theorem dL_law_39 : decode bL_law 39 = .ok (.tableswitch 331 0 6 #[41, 98, 111, 155, 218, 262, 318], 41) := by decide +kernel
theorem dL_law_80 : decode bL_law 80 = .ok (.aload_n 1, 1) := by decide +kernel
theorem dL_law_81 : decode bL_law 81 = .ok (.aload_n 0, 1) := by decide +kernel
theorem dL_law_82 : decode bL_law 82 = .ok (.iload 4, 2) := by decide +kernel
theorem dL_law_84 : decode bL_law 84 = .ok (.iconst 1, 1) := by decide +kernel
theorem dL_law_85 : decode bL_law 85 = .ok (.iadd, 1) := by decide +kernel
theorem dL_law_86 : decode bL_law 86 = .ok (.iaload, 1) := by decide +kernel
theorem dL_law_87 : decode bL_law 87 = .ok (.i2l, 1) := by decide +kernel
theorem dL_law_88 : decode bL_law 88 = .ok (.bipush 32, 2) := by decide +kernel
theorem dL_law_90 : decode bL_law 90 = .ok (.lshl, 1) := by decide +kernel
theorem dL_law_91 : decode bL_law 91 = .ok (.aload_n 0, 1) := by decide +kernel
theorem dL_law_92 : decode bL_law 92 = .ok (.iload 4, 2) := by decide +kernel
theorem dL_law_94 : decode bL_law 94 = .ok (.iconst 2, 1) := by decide +kernel
theorem dL_law_95 : decode bL_law 95 = .ok (.iadd, 1) := by decide +kernel
theorem dL_law_96 : decode bL_law 96 = .ok (.iaload, 1) := by decide +kernel
theorem dL_law_97 : decode bL_law 97 = .ok (.i2l, 1) := by decide +kernel
theorem dL_law_98 : decode bL_law 98 = .ok (.ldc2_w 32, 3) := by decide +kernel
theorem dL_law_101 : decode bL_law 101 = .ok (.land, 1) := by decide +kernel
theorem dL_law_102 : decode bL_law 102 = .ok (.lor, 1) := by decide +kernel
theorem dL_law_103 : decode bL_law 103 = .ok (.invokevirtual 34, 3) := by decide +kernel
theorem dL_law_106 : decode bL_law 106 = .ok (.aload_n 2, 1) := by decide +kernel
theorem dL_law_107 : decode bL_law 107 = .ok (.aload_n 0, 1) := by decide +kernel
theorem dL_law_108 : decode bL_law 108 = .ok (.iload 4, 2) := by decide +kernel
theorem dL_law_110 : decode bL_law 110 = .ok (.iconst 1, 1) := by decide +kernel
theorem dL_law_111 : decode bL_law 111 = .ok (.iadd, 1) := by decide +kernel
theorem dL_law_112 : decode bL_law 112 = .ok (.iaload, 1) := by decide +kernel
theorem dL_law_113 : decode bL_law 113 = .ok (.i2l, 1) := by decide +kernel
theorem dL_law_114 : decode bL_law 114 = .ok (.bipush 32, 2) := by decide +kernel
theorem dL_law_116 : decode bL_law 116 = .ok (.lshl, 1) := by decide +kernel
theorem dL_law_117 : decode bL_law 117 = .ok (.aload_n 0, 1) := by decide +kernel
theorem dL_law_118 : decode bL_law 118 = .ok (.iload 4, 2) := by decide +kernel
theorem dL_law_120 : decode bL_law 120 = .ok (.iconst 2, 1) := by decide +kernel
theorem dL_law_121 : decode bL_law 121 = .ok (.iadd, 1) := by decide +kernel
theorem dL_law_122 : decode bL_law 122 = .ok (.iaload, 1) := by decide +kernel
theorem dL_law_123 : decode bL_law 123 = .ok (.i2l, 1) := by decide +kernel
theorem dL_law_124 : decode bL_law 124 = .ok (.ldc2_w 32, 3) := by decide +kernel
theorem dL_law_127 : decode bL_law 127 = .ok (.land, 1) := by decide +kernel
theorem dL_law_128 : decode bL_law 128 = .ok (.lor, 1) := by decide +kernel
theorem dL_law_129 : decode bL_law 129 = .ok (.invokevirtual 38, 3) := by decide +kernel
theorem dL_law_132 : decode bL_law 132 = .ok (.if_icmp .eq 238, 3) := by decide +kernel
theorem dL_law_135 : decode bL_law 135 = .ok (.iconst 0, 1) := by decide +kernel
theorem dL_law_136 : decode bL_law 136 = .ok (.ireturn, 1) := by decide +kernel
theorem dL_law_137 : decode bL_law 137 = .ok (.aload_n 1, 1) := by decide +kernel
theorem dL_law_138 : decode bL_law 138 = .ok (.invokevirtual 39, 3) := by decide +kernel
theorem dL_law_141 : decode bL_law 141 = .ok (.aload_n 2, 1) := by decide +kernel
theorem dL_law_142 : decode bL_law 142 = .ok (.invokevirtual 42, 3) := by decide +kernel
theorem dL_law_145 : decode bL_law 145 = .ok (.if_icmp .eq 225, 3) := by decide +kernel
theorem dL_law_148 : decode bL_law 148 = .ok (.iconst 0, 1) := by decide +kernel
theorem dL_law_149 : decode bL_law 149 = .ok (.ireturn, 1) := by decide +kernel
theorem dL_law_150 : decode bL_law 150 = .ok (.aload_n 1, 1) := by decide +kernel
theorem dL_law_151 : decode bL_law 151 = .ok (.aload_n 3, 1) := by decide +kernel
theorem dL_law_152 : decode bL_law 152 = .ok (.invokestatic 43, 3) := by decide +kernel
theorem dL_law_155 : decode bL_law 155 = .ok (.istore 5, 2) := by decide +kernel
theorem dL_law_157 : decode bL_law 157 = .ok (.aload_n 2, 1) := by decide +kernel
theorem dL_law_158 : decode bL_law 158 = .ok (.invokevirtual 48, 3) := by decide +kernel
theorem dL_law_161 : decode bL_law 161 = .ok (.istore 6, 2) := by decide +kernel
theorem dL_law_163 : decode bL_law 163 = .ok (.aload_n 2, 1) := by decide +kernel
theorem dL_law_164 : decode bL_law 164 = .ok (.invokevirtual 49, 3) := by decide +kernel
theorem dL_law_167 : decode bL_law 167 = .ok (.iload 5, 2) := by decide +kernel
theorem dL_law_169 : decode bL_law 169 = .ok (.if_icmp .eq 5, 3) := by decide +kernel
theorem dL_law_172 : decode bL_law 172 = .ok (.iconst 0, 1) := by decide +kernel
theorem dL_law_173 : decode bL_law 173 = .ok (.ireturn, 1) := by decide +kernel
theorem dL_law_174 : decode bL_law 174 = .ok (.iload 5, 2) := by decide +kernel
theorem dL_law_176 : decode bL_law 176 = .ok (.ifCond .ne 15, 3) := by decide +kernel
theorem dL_law_179 : decode bL_law 179 = .ok (.aload_n 3, 1) := by decide +kernel
theorem dL_law_180 : decode bL_law 180 = .ok (.iconst 0, 1) := by decide +kernel
theorem dL_law_181 : decode bL_law 181 = .ok (.laload, 1) := by decide +kernel
theorem dL_law_182 : decode bL_law 182 = .ok (.iload 6, 2) := by decide +kernel
theorem dL_law_184 : decode bL_law 184 = .ok (.i2l, 1) := by decide +kernel
theorem dL_law_185 : decode bL_law 185 = .ok (.lcmp, 1) := by decide +kernel
theorem dL_law_186 : decode bL_law 186 = .ok (.ifCond .eq 5, 3) := by decide +kernel
theorem dL_law_189 : decode bL_law 189 = .ok (.iconst 0, 1) := by decide +kernel
theorem dL_law_190 : decode bL_law 190 = .ok (.ireturn, 1) := by decide +kernel
theorem dL_law_191 : decode bL_law 191 = .ok (.goto 179, 3) := by decide +kernel
theorem dL_law_194 : decode bL_law 194 = .ok (.aload_n 1, 1) := by decide +kernel
theorem dL_law_195 : decode bL_law 195 = .ok (.aload_n 0, 1) := by decide +kernel
theorem dL_law_196 : decode bL_law 196 = .ok (.iload 4, 2) := by decide +kernel
theorem dL_law_198 : decode bL_law 198 = .ok (.iconst 1, 1) := by decide +kernel
theorem dL_law_199 : decode bL_law 199 = .ok (.iadd, 1) := by decide +kernel
theorem dL_law_200 : decode bL_law 200 = .ok (.iaload, 1) := by decide +kernel
theorem dL_law_201 : decode bL_law 201 = .ok (.aload_n 3, 1) := by decide +kernel
theorem dL_law_202 : decode bL_law 202 = .ok (.invokestatic 52, 3) := by decide +kernel
theorem dL_law_205 : decode bL_law 205 = .ok (.istore 5, 2) := by decide +kernel
theorem dL_law_207 : decode bL_law 207 = .ok (.aload_n 2, 1) := by decide +kernel
theorem dL_law_208 : decode bL_law 208 = .ok (.aload_n 0, 1) := by decide +kernel
theorem dL_law_209 : decode bL_law 209 = .ok (.iload 4, 2) := by decide +kernel
theorem dL_law_211 : decode bL_law 211 = .ok (.iconst 1, 1) := by decide +kernel
theorem dL_law_212 : decode bL_law 212 = .ok (.iadd, 1) := by decide +kernel
theorem dL_law_213 : decode bL_law 213 = .ok (.iaload, 1) := by decide +kernel
theorem dL_law_214 : decode bL_law 214 = .ok (.invokevirtual 55, 3) := by decide +kernel
theorem dL_law_217 : decode bL_law 217 = .ok (.istore 6, 2) := by decide +kernel
theorem dL_law_219 : decode bL_law 219 = .ok (.aload_n 2, 1) := by decide +kernel
theorem dL_law_220 : decode bL_law 220 = .ok (.invokevirtual 49, 3) := by decide +kernel
theorem dL_law_223 : decode bL_law 223 = .ok (.iload 5, 2) := by decide +kernel
theorem dL_law_225 : decode bL_law 225 = .ok (.if_icmp .eq 5, 3) := by decide +kernel
theorem dL_law_228 : decode bL_law 228 = .ok (.iconst 0, 1) := by decide +kernel
theorem dL_law_229 : decode bL_law 229 = .ok (.ireturn, 1) := by decide +kernel
theorem dL_law_230 : decode bL_law 230 = .ok (.iload 5, 2) := by decide +kernel
theorem dL_law_232 : decode bL_law 232 = .ok (.ifCond .ne 22, 3) := by decide +kernel
theorem dL_law_235 : decode bL_law 235 = .ok (.aload_n 3, 1) := by decide +kernel
theorem dL_law_236 : decode bL_law 236 = .ok (.iconst 0, 1) := by decide +kernel
theorem dL_law_237 : decode bL_law 237 = .ok (.laload, 1) := by decide +kernel
theorem dL_law_238 : decode bL_law 238 = .ok (.iload 6, 2) := by decide +kernel
theorem dL_law_240 : decode bL_law 240 = .ok (.ifCond .eq 7, 3) := by decide +kernel
theorem dL_law_243 : decode bL_law 243 = .ok (.lconst 1, 1) := by decide +kernel
theorem dL_law_244 : decode bL_law 244 = .ok (.goto 4, 3) := by decide +kernel
theorem dL_law_247 : decode bL_law 247 = .ok (.lconst 0, 1) := by decide +kernel
theorem dL_law_248 : decode bL_law 248 = .ok (.lcmp, 1) := by decide +kernel
theorem dL_law_249 : decode bL_law 249 = .ok (.ifCond .eq 5, 3) := by decide +kernel
theorem dL_law_252 : decode bL_law 252 = .ok (.iconst 0, 1) := by decide +kernel
theorem dL_law_253 : decode bL_law 253 = .ok (.ireturn, 1) := by decide +kernel
theorem dL_law_254 : decode bL_law 254 = .ok (.goto 116, 3) := by decide +kernel
theorem dL_law_257 : decode bL_law 257 = .ok (.aload_n 1, 1) := by decide +kernel
theorem dL_law_258 : decode bL_law 258 = .ok (.aload_n 3, 1) := by decide +kernel
theorem dL_law_259 : decode bL_law 259 = .ok (.invokestatic 56, 3) := by decide +kernel
theorem dL_law_262 : decode bL_law 262 = .ok (.istore 5, 2) := by decide +kernel
theorem dL_law_264 : decode bL_law 264 = .ok (.aload_n 2, 1) := by decide +kernel
theorem dL_law_265 : decode bL_law 265 = .ok (.invokevirtual 58, 3) := by decide +kernel
theorem dL_law_268 : decode bL_law 268 = .ok (.istore 6, 2) := by decide +kernel
theorem dL_law_270 : decode bL_law 270 = .ok (.aload_n 2, 1) := by decide +kernel
theorem dL_law_271 : decode bL_law 271 = .ok (.invokevirtual 49, 3) := by decide +kernel
theorem dL_law_274 : decode bL_law 274 = .ok (.iload 5, 2) := by decide +kernel
theorem dL_law_276 : decode bL_law 276 = .ok (.if_icmp .eq 5, 3) := by decide +kernel
theorem dL_law_279 : decode bL_law 279 = .ok (.iconst 0, 1) := by decide +kernel
theorem dL_law_280 : decode bL_law 280 = .ok (.ireturn, 1) := by decide +kernel
theorem dL_law_281 : decode bL_law 281 = .ok (.iload 5, 2) := by decide +kernel
theorem dL_law_283 : decode bL_law 283 = .ok (.ifCond .ne 15, 3) := by decide +kernel
theorem dL_law_286 : decode bL_law 286 = .ok (.aload_n 3, 1) := by decide +kernel
theorem dL_law_287 : decode bL_law 287 = .ok (.iconst 0, 1) := by decide +kernel
theorem dL_law_288 : decode bL_law 288 = .ok (.laload, 1) := by decide +kernel
theorem dL_law_289 : decode bL_law 289 = .ok (.iload 6, 2) := by decide +kernel
theorem dL_law_291 : decode bL_law 291 = .ok (.i2l, 1) := by decide +kernel
theorem dL_law_292 : decode bL_law 292 = .ok (.lcmp, 1) := by decide +kernel
theorem dL_law_293 : decode bL_law 293 = .ok (.ifCond .eq 5, 3) := by decide +kernel
theorem dL_law_296 : decode bL_law 296 = .ok (.iconst 0, 1) := by decide +kernel
theorem dL_law_297 : decode bL_law 297 = .ok (.ireturn, 1) := by decide +kernel
theorem dL_law_298 : decode bL_law 298 = .ok (.goto 72, 3) := by decide +kernel
theorem dL_law_301 : decode bL_law 301 = .ok (.aload_n 1, 1) := by decide +kernel
theorem dL_law_302 : decode bL_law 302 = .ok (.aload_n 0, 1) := by decide +kernel
theorem dL_law_303 : decode bL_law 303 = .ok (.iload 4, 2) := by decide +kernel
theorem dL_law_305 : decode bL_law 305 = .ok (.iconst 1, 1) := by decide +kernel
theorem dL_law_306 : decode bL_law 306 = .ok (.iadd, 1) := by decide +kernel
theorem dL_law_307 : decode bL_law 307 = .ok (.iaload, 1) := by decide +kernel
theorem dL_law_308 : decode bL_law 308 = .ok (.aload_n 3, 1) := by decide +kernel
theorem dL_law_309 : decode bL_law 309 = .ok (.invokestatic 59, 3) := by decide +kernel
theorem dL_law_312 : decode bL_law 312 = .ok (.istore 5, 2) := by decide +kernel
theorem dL_law_314 : decode bL_law 314 = .ok (.aload_n 2, 1) := by decide +kernel
theorem dL_law_315 : decode bL_law 315 = .ok (.aload_n 0, 1) := by decide +kernel
theorem dL_law_316 : decode bL_law 316 = .ok (.iload 4, 2) := by decide +kernel
theorem dL_law_318 : decode bL_law 318 = .ok (.iconst 1, 1) := by decide +kernel
theorem dL_law_319 : decode bL_law 319 = .ok (.iadd, 1) := by decide +kernel
theorem dL_law_320 : decode bL_law 320 = .ok (.iaload, 1) := by decide +kernel
theorem dL_law_321 : decode bL_law 321 = .ok (.invokevirtual 61, 3) := by decide +kernel
theorem dL_law_324 : decode bL_law 324 = .ok (.istore 6, 2) := by decide +kernel
theorem dL_law_326 : decode bL_law 326 = .ok (.aload_n 2, 1) := by decide +kernel
theorem dL_law_327 : decode bL_law 327 = .ok (.invokevirtual 49, 3) := by decide +kernel
theorem dL_law_330 : decode bL_law 330 = .ok (.iload 5, 2) := by decide +kernel
theorem dL_law_332 : decode bL_law 332 = .ok (.if_icmp .eq 5, 3) := by decide +kernel
theorem dL_law_335 : decode bL_law 335 = .ok (.iconst 0, 1) := by decide +kernel
theorem dL_law_336 : decode bL_law 336 = .ok (.ireturn, 1) := by decide +kernel
theorem dL_law_337 : decode bL_law 337 = .ok (.iload 5, 2) := by decide +kernel
theorem dL_law_339 : decode bL_law 339 = .ok (.ifCond .ne 15, 3) := by decide +kernel
theorem dL_law_342 : decode bL_law 342 = .ok (.aload_n 3, 1) := by decide +kernel
theorem dL_law_343 : decode bL_law 343 = .ok (.iconst 0, 1) := by decide +kernel
theorem dL_law_344 : decode bL_law 344 = .ok (.laload, 1) := by decide +kernel
theorem dL_law_345 : decode bL_law 345 = .ok (.iload 6, 2) := by decide +kernel
theorem dL_law_347 : decode bL_law 347 = .ok (.i2l, 1) := by decide +kernel
theorem dL_law_348 : decode bL_law 348 = .ok (.lcmp, 1) := by decide +kernel
theorem dL_law_349 : decode bL_law 349 = .ok (.ifCond .eq 5, 3) := by decide +kernel
theorem dL_law_352 : decode bL_law 352 = .ok (.iconst 0, 1) := by decide +kernel
theorem dL_law_353 : decode bL_law 353 = .ok (.ireturn, 1) := by decide +kernel
theorem dL_law_354 : decode bL_law 354 = .ok (.goto 16, 3) := by decide +kernel
theorem dL_law_357 : decode bL_law 357 = .ok (.aload_n 1, 1) := by decide +kernel
theorem dL_law_358 : decode bL_law 358 = .ok (.invokevirtual 62, 3) := by decide +kernel
theorem dL_law_361 : decode bL_law 361 = .ok (.aload_n 2, 1) := by decide +kernel
theorem dL_law_362 : decode bL_law 362 = .ok (.invokevirtual 65, 3) := by decide +kernel
theorem dL_law_365 : decode bL_law 365 = .ok (.if_icmp .eq 5, 3) := by decide +kernel
theorem dL_law_368 : decode bL_law 368 = .ok (.iconst 0, 1) := by decide +kernel
theorem dL_law_369 : decode bL_law 369 = .ok (.ireturn, 1) := by decide +kernel
theorem dL_law_370 : decode bL_law 370 = .ok (.iinc 4 3, 3) := by decide +kernel
theorem dL_law_373 : decode bL_law 373 = .ok (.goto (-350), 3) := by decide +kernel
theorem dL_law_376 : decode bL_law 376 = .ok (.iconst 1, 1) := by decide +kernel
theorem dL_law_377 : decode bL_law 377 = .ok (.ireturn, 1) := by decide +kernel
section
variable {p : Program} {l : Launch} {e : Env} {R : Room} {s : State} {m : MethodId} {args : Array Value} {below : List Frame} {meth : Method} {c : Code} {G : Gx} {M0 M' : Mem} {r : Option Value ⊕ Nat} {d : Nat} {C : Cx}

def fL_read_0 (n d : Nat) (C : Cx) (r0 : Option Nat) (r1 : Option Nat) (M : Mem) : Rz := rzD r0 fun a_1 => (if mK M a_1 = 1 then (rzT (C 10 [.ref a_1] M) (fun v_4 M_5 => (rzI v_4 fun x_8 => (rzD r1 fun a_9 => (if mK M_5 a_9 = 24 then (if inA 0 (mL M_5 a_9) then (rzM (setJ M_5 a_9 (0 : Int32).toNatClampNeg (x_8.toInt64)) fun M_13 => (some (.inl (some (.int 0)), M_13))) else none) else none)))) (fun e_16 M_5 => (if e_16 = 1 then (some (.inl (some (.int 1)), M_5)) else (none)))) else none)
theorem mwL_read : Cond.codeWith yL_read bL_read 3 (some .int) [(0, 8, 11, 13)] ∈ lw_tbl := List.mem_append_right _ (List.mem_of_getElem? (i := 133) (by decide +kernel))
theorem mtL_read : Cond.static yL_read ∈ lw_tbl := List.mem_append_right _ (List.mem_of_getElem? (i := 132) (by decide +kernel))
set_option maxRecDepth 100000 in
set_option maxHeartbeats 4000000 in
theorem sL_read {l : Launch} {G : Gx} {n d : Nat} {C : Cx} (hC : CBs l G d C) (r0 : Option Nat) (r1 : Option Nat) {M M' : Mem} {r : Option Value ⊕ Nat} (h : fL_read_0 n d C r0 r1 M = some (r, M')) : CB l G (d + 1) yL_read [va_rf r0, va_rf r1] M r M' := by
  intro p e R s m below meth c hx hn hm hc hlk hK hR hcap hS hU hfr hlo hrc hrs
  obtain ⟨hb, hml, hrt, hex, hown⟩ := fx_ofW hn hm hc (hK.w mwL_read rfl #[])
  have hRm : RM G R M d := ⟨hfr, hlo, by rw [← hcap]; exact hrc, hrs⟩
  rw [hml]
  have hl := lv_entry ([va_rf r0, va_rf r1]) (n := 3) (by simp [lg_sl, cat_rf, cat_i, cat_a, cat_l, cat_n])
  rw [lg_entry_eq]
  generalize (lg_sl ([va_rf r0, va_rf r1]) ++ List.replicate (3 - (lg_sl ([va_rf r0, va_rf r1])).length) Slot.unset).toArray = ls at hl ⊢
  have hl : lv_has ls 3 [(0, va_rf r0), (1, va_rf r1)] := by simpa [lv_args, cat_rf, cat_i, cat_a, cat_l, cat_n] using hl
  have hR := RL.start hR hcap hS hU
  unfold fL_read_0 at h
  refine lr_aload_n hx hb dL_read_0 rfl (lv_at hl 1 rfl) ?_
  refine lv_iconst (v := 0) hx hb dL_read_1 (by decide) ?_
  refine lr_aload_n hx hb dL_read_2 rfl (lv_at hl 0 rfl) ?_
  obtain ⟨a_1, e_2, h⟩ := rz_d h
  rw [e_2]
  obtain ⟨c_3, h⟩ := rz_chk h
  obtain ⟨q_7, M_5, h_6, h⟩ := rz_tt h
  refine rc_V (rest := [.int 0, va_rf r1]) (As := []) hx hb (hl.1.trans hml.symm) hown hK hR hRm mfH_read kl_L_7 hk_H rfl rfl c_3 (by simp [cat_rf, cat_i, cat_a, cat_l, cat_n]) (hC 10 _ _ _ _ h_6) dL_read_3 (fun v1 H locs cells slots ev hR => ?_) (fun x1 q1 ce1 H locs cells slots ex hR g1 g2 g3 => ?_)
  · rcases h with ⟨v_4, ev2, h⟩ | ⟨e2, ee2, -⟩
    · cases ev.symm.trans ev2
      replace h := rz_i h
      obtain ⟨x_8, rfl, h⟩ := h
      dsimp only [Option.toList, List.cons_append, List.nil_append]
      refine lv_i2l hx hb dL_read_6 rfl ?_
      obtain ⟨a_9, e_10, h⟩ := rz_d h
      rw [e_10]
      obtain ⟨c_11, h⟩ := rz_chk h
      obtain ⟨c_12, h⟩ := rz_chk h
      obtain ⟨M_13, q_14, h⟩ := rz_m h
      refine rg_last hx hb hK hR c_11 c_12 dL_read_7 (fun H locs hR => ?_)
      rw [← q_14] at hR
      have c_15 : mK M_13 a_9 = 24 := by rw [q_14]; exact c_11
      refine lv_goto (tgt := 14) hx hb dL_read_8 (by decide) ?_
      refine lv_iconst (v := 0) hx hb dL_read_14 (by decide) ?_
      cases h
      exact rt_i hx hb hlk hrt (Or.inl rfl) rfl hR dL_read_15
    · cases ev.symm.trans ee2
  · rcases h with ⟨v2, ev2, -⟩ | ⟨e2, ee2, h⟩
    · cases ex.symm.trans ev2
    · cases ex.symm.trans ee2
      by_cases c_17 : x1 = 1
      · replace h := rz_t c_17 h
        subst c_17
        refine rt_c1 (x := 1) hown hK hex (by decide) (by decide) (by decide) kc_L_13 xc_1 g1 g2 g3 ?_
        refine lv_astore_n (lv' := [(2, .ref q1), (0, va_rf r0), (1, va_rf r1)]) hx hb dL_read_11 rfl hl (by decide) (by first | (simp [cat_rf, cat_i, cat_a, cat_l, cat_n]; done) | (simp [cat_rf, cat_i, cat_a, cat_l, cat_n]; decide)) (fun ls hl => ?_)
        refine lv_iconst (v := 1) hx hb dL_read_12 (by decide) ?_
        cases h
        exact rt_i hx hb hlk hrt (Or.inl rfl) rfl hR dL_read_13
      · replace h := rz_f c_17 h
        cases h
def fL_holds_0 (n d : Nat) (C : Cx) (r0 : Option Nat) (x1 : Int32) (r2 : Option Nat) (M : Mem) : Rz := rzD r0 fun a_1 => (if mK M a_1 = 1 then (rzT (C 43 [.ref a_1, .int x1] M) (fun v_4 M_5 => (rzI v_4 fun x_8 => (if x_8 = 0 then (rzD r2 fun a_10 => (if mK M_5 a_10 = 24 then (if inA 0 (mL M_5 a_10) then (rzM (setJ M_5 a_10 (0 : Int32).toNatClampNeg 0) fun M_14 => (some (.inl (some (.int 0)), M_14))) else none) else none)) else (rzD r2 fun a_17 => (if mK M_5 a_17 = 24 then (if inA 0 (mL M_5 a_17) then (rzM (setJ M_5 a_17 (0 : Int32).toNatClampNeg 1) fun M_21 => (some (.inl (some (.int 0)), M_21))) else none) else none))))) (fun e_24 M_5 => (if e_24 = 2 then (some (.inl (some (.int 1)), M_5)) else (if e_24 = 1 then (some (.inl (some (.int 2)), M_5)) else (none))))) else none)
theorem mwL_holds : Cond.codeWith yL_holds bL_holds 4 (some .int) [(0, 16, 19, 19), (0, 16, 22, 13)] ∈ lw_tbl := List.mem_append_right _ (List.mem_of_getElem? (i := 415) (by decide +kernel))
theorem mtL_holds : Cond.static yL_holds ∈ lw_tbl := List.mem_append_right _ (List.mem_of_getElem? (i := 414) (by decide +kernel))
set_option maxRecDepth 100000 in
set_option maxHeartbeats 4000000 in
theorem sL_holds {l : Launch} {G : Gx} {n d : Nat} {C : Cx} (hC : CBs l G d C) (r0 : Option Nat) (x1 : Int32) (r2 : Option Nat) {M M' : Mem} {r : Option Value ⊕ Nat} (h : fL_holds_0 n d C r0 x1 r2 M = some (r, M')) : CB l G (d + 1) yL_holds [va_rf r0, .int x1, va_rf r2] M r M' := by
  intro p e R s m below meth c hx hn hm hc hlk hK hR hcap hS hU hfr hlo hrc hrs
  obtain ⟨hb, hml, hrt, hex, hown⟩ := fx_ofW hn hm hc (hK.w mwL_holds rfl #[])
  have hRm : RM G R M d := ⟨hfr, hlo, by rw [← hcap]; exact hrc, hrs⟩
  rw [hml]
  have hl := lv_entry ([va_rf r0, .int x1, va_rf r2]) (n := 4) (by simp [lg_sl, cat_rf, cat_i, cat_a, cat_l, cat_n])
  rw [lg_entry_eq]
  generalize (lg_sl ([va_rf r0, .int x1, va_rf r2]) ++ List.replicate (4 - (lg_sl ([va_rf r0, .int x1, va_rf r2])).length) Slot.unset).toArray = ls at hl ⊢
  have hl : lv_has ls 4 [(0, va_rf r0), (1, .int x1), (2, va_rf r2)] := by simpa [lv_args, cat_rf, cat_i, cat_a, cat_l, cat_n] using hl
  have hR := RL.start hR hcap hS hU
  unfold fL_holds_0 at h
  refine lr_aload_n hx hb dL_holds_0 rfl (lv_at hl 2 rfl) ?_
  refine lv_iconst (v := 0) hx hb dL_holds_1 (by decide) ?_
  refine lr_aload_n hx hb dL_holds_2 rfl (lv_at hl 0 rfl) ?_
  refine lv_iload_n hx hb dL_holds_3 rfl (lv_at hl 1 rfl) ?_
  obtain ⟨a_1, e_2, h⟩ := rz_d h
  rw [e_2]
  obtain ⟨c_3, h⟩ := rz_chk h
  obtain ⟨q_7, M_5, h_6, h⟩ := rz_tt h
  refine rc_V (rest := [.int 0, va_rf r2]) (As := [.int x1]) hx hb (hl.1.trans hml.symm) hown hK hR hRm mfH_holds kl_L_15 hk_H rfl rfl c_3 (by simp [cat_rf, cat_i, cat_a, cat_l, cat_n]) (hC 43 _ _ _ _ h_6) dL_holds_4 (fun v1 H locs cells slots ev hR => ?_) (fun x1 q1 ce1 H locs cells slots ex hR g1 g2 g3 => ?_)
  · rcases h with ⟨v_4, ev2, h⟩ | ⟨e2, ee2, -⟩
    · cases ev.symm.trans ev2
      replace h := rz_i h
      obtain ⟨x_8, rfl, h⟩ := h
      dsimp only [Option.toList, List.cons_append, List.nil_append]
      refine lv_if_eq (tgt := 14) hx hb dL_holds_7 (by decide) (fun c_9 => ?_) (fun c_9 => ?_)
      · replace h := rz_t c_9 h
        refine lv_lconst (v := 0) hx hb dL_holds_14 (by decide) ?_
        obtain ⟨a_10, e_11, h⟩ := rz_d h
        rw [e_11]
        obtain ⟨c_12, h⟩ := rz_chk h
        obtain ⟨c_13, h⟩ := rz_chk h
        obtain ⟨M_14, q_15, h⟩ := rz_m h
        refine rg_last hx hb hK hR c_12 c_13 dL_holds_15 (fun H locs hR => ?_)
        rw [← q_15] at hR
        have c_16 : mK M_14 a_10 = 24 := by rw [q_15]; exact c_12
        refine lv_goto (tgt := 25) hx hb dL_holds_16 (by decide) ?_
        refine lv_iconst (v := 0) hx hb dL_holds_25 (by decide) ?_
        cases h
        exact rt_i hx hb hlk hrt (Or.inl rfl) rfl hR dL_holds_26
      · replace h := rz_f c_9 h
        refine lv_lconst (v := 1) hx hb dL_holds_10 (by decide) ?_
        refine lv_goto (tgt := 15) hx hb dL_holds_11 (by decide) ?_
        obtain ⟨a_17, e_18, h⟩ := rz_d h
        rw [e_18]
        obtain ⟨c_19, h⟩ := rz_chk h
        obtain ⟨c_20, h⟩ := rz_chk h
        obtain ⟨M_21, q_22, h⟩ := rz_m h
        refine rg_last hx hb hK hR c_19 c_20 dL_holds_15 (fun H locs hR => ?_)
        rw [← q_22] at hR
        have c_23 : mK M_21 a_17 = 24 := by rw [q_22]; exact c_19
        refine lv_goto (tgt := 25) hx hb dL_holds_16 (by decide) ?_
        refine lv_iconst (v := 0) hx hb dL_holds_25 (by decide) ?_
        cases h
        exact rt_i hx hb hlk hrt (Or.inl rfl) rfl hR dL_holds_26
    · cases ev.symm.trans ee2
  · rcases h with ⟨v2, ev2, -⟩ | ⟨e2, ee2, h⟩
    · cases ex.symm.trans ev2
    · cases ex.symm.trans ee2
      by_cases c_25 : x1 = 2
      · replace h := rz_t c_25 h
        subst c_25
        refine rt_c1 (x := 2) hown hK hex (by decide) (by decide) (by decide) kc_L_19 xc_2 g1 g2 g3 ?_
        refine lv_astore_n (lv' := [(3, .ref q1), (0, va_rf r0), (1, .int x1), (2, va_rf r2)]) hx hb dL_holds_19 rfl hl (by decide) (by first | (simp [cat_rf, cat_i, cat_a, cat_l, cat_n]; done) | (simp [cat_rf, cat_i, cat_a, cat_l, cat_n]; decide)) (fun ls hl => ?_)
        refine lv_iconst (v := 1) hx hb dL_holds_20 (by decide) ?_
        cases h
        exact rt_i hx hb hlk hrt (Or.inl rfl) rfl hR dL_holds_21
      · replace h := rz_f c_25 h
        by_cases c_26 : x1 = 1
        · replace h := rz_t c_26 h
          subst c_26
          refine rt_c2 (x := 1) (y := 2) hown hK hex (by decide) kc_L_19 hK.2.2.2.2.2.2.2.2.1 (by decide) (by decide) (by decide) kc_L_13 xc_1 g1 g2 g3 ?_
          refine lv_astore_n (lv' := [(3, .ref q1), (0, va_rf r0), (1, .int x1), (2, va_rf r2)]) hx hb dL_holds_22 rfl hl (by decide) (by first | (simp [cat_rf, cat_i, cat_a, cat_l, cat_n]; done) | (simp [cat_rf, cat_i, cat_a, cat_l, cat_n]; decide)) (fun ls hl => ?_)
          refine lv_iconst (v := 2) hx hb dL_holds_23 (by decide) ?_
          cases h
          exact rt_i hx hb hlk hrt (Or.inl rfl) rfl hR dL_holds_24
        · replace h := rz_f c_26 h
          cases h
def fL_fails_0 (n d : Nat) (C : Cx) (r0 : Option Nat) (r1 : Option Nat) (M : Mem) : Rz := rzD r0 fun a_1 => (if mK M a_1 = 1 then (rzT (C 63 [.ref a_1] M) (fun v_4 M_5 => (rzI v_4 fun x_8 => (rzD r1 fun a_9 => (if mK M_5 a_9 = 24 then (if inA 0 (mL M_5 a_9) then (rzM (setJ M_5 a_9 (0 : Int32).toNatClampNeg (x_8.toInt64)) fun M_13 => (some (.inl (some (.int 0)), M_13))) else none) else none)))) (fun e_16 M_5 => (if e_16 = 2 then (some (.inl (some (.int 1)), M_5)) else (none)))) else none)
theorem mwL_fails : Cond.codeWith yL_fails bL_fails 3 (some .int) [(0, 8, 11, 19)] ∈ lw_tbl := List.mem_append_right _ (List.mem_of_getElem? (i := 518) (by decide +kernel))
theorem mtL_fails : Cond.static yL_fails ∈ lw_tbl := List.mem_append_right _ (List.mem_of_getElem? (i := 517) (by decide +kernel))
set_option maxRecDepth 100000 in
set_option maxHeartbeats 4000000 in
theorem sL_fails {l : Launch} {G : Gx} {n d : Nat} {C : Cx} (hC : CBs l G d C) (r0 : Option Nat) (r1 : Option Nat) {M M' : Mem} {r : Option Value ⊕ Nat} (h : fL_fails_0 n d C r0 r1 M = some (r, M')) : CB l G (d + 1) yL_fails [va_rf r0, va_rf r1] M r M' := by
  intro p e R s m below meth c hx hn hm hc hlk hK hR hcap hS hU hfr hlo hrc hrs
  obtain ⟨hb, hml, hrt, hex, hown⟩ := fx_ofW hn hm hc (hK.w mwL_fails rfl #[])
  have hRm : RM G R M d := ⟨hfr, hlo, by rw [← hcap]; exact hrc, hrs⟩
  rw [hml]
  have hl := lv_entry ([va_rf r0, va_rf r1]) (n := 3) (by simp [lg_sl, cat_rf, cat_i, cat_a, cat_l, cat_n])
  rw [lg_entry_eq]
  generalize (lg_sl ([va_rf r0, va_rf r1]) ++ List.replicate (3 - (lg_sl ([va_rf r0, va_rf r1])).length) Slot.unset).toArray = ls at hl ⊢
  have hl : lv_has ls 3 [(0, va_rf r0), (1, va_rf r1)] := by simpa [lv_args, cat_rf, cat_i, cat_a, cat_l, cat_n] using hl
  have hR := RL.start hR hcap hS hU
  unfold fL_fails_0 at h
  refine lr_aload_n hx hb dL_fails_0 rfl (lv_at hl 1 rfl) ?_
  refine lv_iconst (v := 0) hx hb dL_fails_1 (by decide) ?_
  refine lr_aload_n hx hb dL_fails_2 rfl (lv_at hl 0 rfl) ?_
  obtain ⟨a_1, e_2, h⟩ := rz_d h
  rw [e_2]
  obtain ⟨c_3, h⟩ := rz_chk h
  obtain ⟨q_7, M_5, h_6, h⟩ := rz_tt h
  refine rc_V (rest := [.int 0, va_rf r1]) (As := []) hx hb (hl.1.trans hml.symm) hown hK hR hRm mfH_fails kl_L_21 hk_H rfl rfl c_3 (by simp [cat_rf, cat_i, cat_a, cat_l, cat_n]) (hC 63 _ _ _ _ h_6) dL_fails_3 (fun v1 H locs cells slots ev hR => ?_) (fun x1 q1 ce1 H locs cells slots ex hR g1 g2 g3 => ?_)
  · rcases h with ⟨v_4, ev2, h⟩ | ⟨e2, ee2, -⟩
    · cases ev.symm.trans ev2
      replace h := rz_i h
      obtain ⟨x_8, rfl, h⟩ := h
      dsimp only [Option.toList, List.cons_append, List.nil_append]
      refine lv_i2l hx hb dL_fails_6 rfl ?_
      obtain ⟨a_9, e_10, h⟩ := rz_d h
      rw [e_10]
      obtain ⟨c_11, h⟩ := rz_chk h
      obtain ⟨c_12, h⟩ := rz_chk h
      obtain ⟨M_13, q_14, h⟩ := rz_m h
      refine rg_last hx hb hK hR c_11 c_12 dL_fails_7 (fun H locs hR => ?_)
      rw [← q_14] at hR
      have c_15 : mK M_13 a_9 = 24 := by rw [q_14]; exact c_11
      refine lv_goto (tgt := 14) hx hb dL_fails_8 (by decide) ?_
      refine lv_iconst (v := 0) hx hb dL_fails_14 (by decide) ?_
      cases h
      exact rt_i hx hb hlk hrt (Or.inl rfl) rfl hR dL_fails_15
    · cases ev.symm.trans ee2
  · rcases h with ⟨v2, ev2, -⟩ | ⟨e2, ee2, h⟩
    · cases ex.symm.trans ev2
    · cases ex.symm.trans ee2
      by_cases c_17 : x1 = 2
      · replace h := rz_t c_17 h
        subst c_17
        refine rt_c1 (x := 2) hown hK hex (by decide) (by decide) (by decide) kc_L_19 xc_2 g1 g2 g3 ?_
        refine lv_astore_n (lv' := [(2, .ref q1), (0, va_rf r0), (1, va_rf r1)]) hx hb dL_fails_11 rfl hl (by decide) (by first | (simp [cat_rf, cat_i, cat_a, cat_l, cat_n]; done) | (simp [cat_rf, cat_i, cat_a, cat_l, cat_n]; decide)) (fun ls hl => ?_)
        refine lv_iconst (v := 1) hx hb dL_fails_12 (by decide) ?_
        cases h
        exact rt_i hx hb hlk hrt (Or.inl rfl) rfl hR dL_fails_13
      · replace h := rz_f c_17 h
        cases h
def fL_ways_0 (n d : Nat) (C : Cx) (r0 : Option Nat) (x1 : Int32) (r2 : Option Nat) (M : Mem) : Rz := rzD r0 fun a_1 => (if mK M a_1 = 1 then (rzT (C 64 [.ref a_1, .int x1] M) (fun v_4 M_5 => (rzI v_4 fun x_8 => (rzD r2 fun a_9 => (if mK M_5 a_9 = 24 then (if inA 0 (mL M_5 a_9) then (rzM (setJ M_5 a_9 (0 : Int32).toNatClampNeg (x_8.toInt64)) fun M_13 => (some (.inl (some (.int 0)), M_13))) else none) else none)))) (fun e_16 M_5 => (if e_16 = 2 then (some (.inl (some (.int 1)), M_5)) else (if e_16 = 1 then (some (.inl (some (.int 2)), M_5)) else (none))))) else none)
theorem mwL_ways : Cond.codeWith yL_ways bL_ways 4 (some .int) [(0, 9, 12, 19), (0, 9, 15, 13)] ∈ lw_tbl := List.mem_append_right _ (List.mem_of_getElem? (i := 525) (by decide +kernel))
theorem mtL_ways : Cond.static yL_ways ∈ lw_tbl := List.mem_append_right _ (List.mem_of_getElem? (i := 524) (by decide +kernel))
set_option maxRecDepth 100000 in
set_option maxHeartbeats 4000000 in
theorem sL_ways {l : Launch} {G : Gx} {n d : Nat} {C : Cx} (hC : CBs l G d C) (r0 : Option Nat) (x1 : Int32) (r2 : Option Nat) {M M' : Mem} {r : Option Value ⊕ Nat} (h : fL_ways_0 n d C r0 x1 r2 M = some (r, M')) : CB l G (d + 1) yL_ways [va_rf r0, .int x1, va_rf r2] M r M' := by
  intro p e R s m below meth c hx hn hm hc hlk hK hR hcap hS hU hfr hlo hrc hrs
  obtain ⟨hb, hml, hrt, hex, hown⟩ := fx_ofW hn hm hc (hK.w mwL_ways rfl #[])
  have hRm : RM G R M d := ⟨hfr, hlo, by rw [← hcap]; exact hrc, hrs⟩
  rw [hml]
  have hl := lv_entry ([va_rf r0, .int x1, va_rf r2]) (n := 4) (by simp [lg_sl, cat_rf, cat_i, cat_a, cat_l, cat_n])
  rw [lg_entry_eq]
  generalize (lg_sl ([va_rf r0, .int x1, va_rf r2]) ++ List.replicate (4 - (lg_sl ([va_rf r0, .int x1, va_rf r2])).length) Slot.unset).toArray = ls at hl ⊢
  have hl : lv_has ls 4 [(0, va_rf r0), (1, .int x1), (2, va_rf r2)] := by simpa [lv_args, cat_rf, cat_i, cat_a, cat_l, cat_n] using hl
  have hR := RL.start hR hcap hS hU
  unfold fL_ways_0 at h
  refine lr_aload_n hx hb dL_ways_0 rfl (lv_at hl 2 rfl) ?_
  refine lv_iconst (v := 0) hx hb dL_ways_1 (by decide) ?_
  refine lr_aload_n hx hb dL_ways_2 rfl (lv_at hl 0 rfl) ?_
  refine lv_iload_n hx hb dL_ways_3 rfl (lv_at hl 1 rfl) ?_
  obtain ⟨a_1, e_2, h⟩ := rz_d h
  rw [e_2]
  obtain ⟨c_3, h⟩ := rz_chk h
  obtain ⟨q_7, M_5, h_6, h⟩ := rz_tt h
  refine rc_V (rest := [.int 0, va_rf r2]) (As := [.int x1]) hx hb (hl.1.trans hml.symm) hown hK hR hRm mfH_ways kl_L_24 hk_H rfl rfl c_3 (by simp [cat_rf, cat_i, cat_a, cat_l, cat_n]) (hC 64 _ _ _ _ h_6) dL_ways_4 (fun v1 H locs cells slots ev hR => ?_) (fun x1 q1 ce1 H locs cells slots ex hR g1 g2 g3 => ?_)
  · rcases h with ⟨v_4, ev2, h⟩ | ⟨e2, ee2, -⟩
    · cases ev.symm.trans ev2
      replace h := rz_i h
      obtain ⟨x_8, rfl, h⟩ := h
      dsimp only [Option.toList, List.cons_append, List.nil_append]
      refine lv_i2l hx hb dL_ways_7 rfl ?_
      obtain ⟨a_9, e_10, h⟩ := rz_d h
      rw [e_10]
      obtain ⟨c_11, h⟩ := rz_chk h
      obtain ⟨c_12, h⟩ := rz_chk h
      obtain ⟨M_13, q_14, h⟩ := rz_m h
      refine rg_last hx hb hK hR c_11 c_12 dL_ways_8 (fun H locs hR => ?_)
      rw [← q_14] at hR
      have c_15 : mK M_13 a_9 = 24 := by rw [q_14]; exact c_11
      refine lv_goto (tgt := 18) hx hb dL_ways_9 (by decide) ?_
      refine lv_iconst (v := 0) hx hb dL_ways_18 (by decide) ?_
      cases h
      exact rt_i hx hb hlk hrt (Or.inl rfl) rfl hR dL_ways_19
    · cases ev.symm.trans ee2
  · rcases h with ⟨v2, ev2, -⟩ | ⟨e2, ee2, h⟩
    · cases ex.symm.trans ev2
    · cases ex.symm.trans ee2
      by_cases c_17 : x1 = 2
      · replace h := rz_t c_17 h
        subst c_17
        refine rt_c1 (x := 2) hown hK hex (by decide) (by decide) (by decide) kc_L_19 xc_2 g1 g2 g3 ?_
        refine lv_astore_n (lv' := [(3, .ref q1), (0, va_rf r0), (1, .int x1), (2, va_rf r2)]) hx hb dL_ways_12 rfl hl (by decide) (by first | (simp [cat_rf, cat_i, cat_a, cat_l, cat_n]; done) | (simp [cat_rf, cat_i, cat_a, cat_l, cat_n]; decide)) (fun ls hl => ?_)
        refine lv_iconst (v := 1) hx hb dL_ways_13 (by decide) ?_
        cases h
        exact rt_i hx hb hlk hrt (Or.inl rfl) rfl hR dL_ways_14
      · replace h := rz_f c_17 h
        by_cases c_18 : x1 = 1
        · replace h := rz_t c_18 h
          subst c_18
          refine rt_c2 (x := 1) (y := 2) hown hK hex (by decide) kc_L_19 hK.2.2.2.2.2.2.2.2.1 (by decide) (by decide) (by decide) kc_L_13 xc_1 g1 g2 g3 ?_
          refine lv_astore_n (lv' := [(3, .ref q1), (0, va_rf r0), (1, .int x1), (2, va_rf r2)]) hx hb dL_ways_15 rfl hl (by decide) (by first | (simp [cat_rf, cat_i, cat_a, cat_l, cat_n]; done) | (simp [cat_rf, cat_i, cat_a, cat_l, cat_n]; decide)) (fun ls hl => ?_)
          refine lv_iconst (v := 2) hx hb dL_ways_16 (by decide) ?_
          cases h
          exact rt_i hx hb hlk hrt (Or.inl rfl) rfl hR dL_ways_17
        · replace h := rz_f c_18 h
          cases h
def fL_law_370 (n d : Nat) (C : Cx) (C2 : Cx) (sc : Nat → Int32) (N : Nat) (k23 : Nat → Nat → Nat → Int32 → Mem → Rz) (a1 : Nat) (a2 : Nat) (a3 : Nat) (x4 : Int32) (M : Mem) : Rz := k23 a1 a2 a3 (x4 + 3) M
set_option maxRecDepth 100000 in
set_option maxHeartbeats 4000000 in
theorem tL_law_370 {n : Nat} {k23 : Nat → Nat → Nat → Int32 → Mem → Rz} (F : FX p s m meth c G R M0 d "HeadCountLaw" bL_law 7 (some .boolean)) (hC : CBs l G d C) {C2 : Cx} {sc : Nat → Int32} {N b0 : Nat} (hd2 : d - 1 + 1 = d) (hC2 : CBs l G (d - 1) C2) (hX : Scr G s b0 N sc) (hk23 : ∀ (a1 : Nat) (a2 : Nat) (a3 : Nat) (x4 : Int32) (M : Mem) (H : Heap) (locs : List Loc) (cells slots : Nat) (ls : Array Slot), k23 a1 a2 a3 x4 M = some (r, M') → RL G M0 M H locs cells slots → lv_has ls 7 [(0, .ref b0), (1, .ref a1), (2, .ref a2), (3, .ref a3), (4, .int x4)] → W p l e R s m args below meth c H locs cells slots (CQ G below s M0 r M') (F0 m 23 ls [])) : ∀ (a1 : Nat) (a2 : Nat) (a3 : Nat) (x4 : Int32) (M : Mem) (H : Heap) (locs : List Loc) (cells slots : Nat) (ls : Array Slot), fL_law_370 n d C C2 sc N k23 a1 a2 a3 x4 M = some (r, M') → RL G M0 M H locs cells slots → lv_has ls 7 [(0, .ref b0), (1, .ref a1), (2, .ref a2), (3, .ref a3), (4, .int x4)] → W p l e R s m args below meth c H locs cells slots (CQ G below s M0 r M') (F0 m 370 ls []) := by
  obtain ⟨hx, hb, hml, hown, hrt, hlk, hex, hK, hRm⟩ := id F
  intro a1 a2 a3 x4 M H locs cells slots ls h hR hl
  unfold fL_law_370 at h
  refine lv_iinc (k := 4) (v := x4 + 3) (lv' := [(4, .int (x4 + 3)), (0, .ref b0), (1, .ref a1), (2, .ref a2), (3, .ref a3)]) hx hb dL_law_370 hl rfl (by rw [show Int32.ofInt 3 = 3 from by decide]) (by decide) rfl (fun ls hl => ?_)
  refine lv_goto (tgt := 23) hx hb dL_law_373 (by decide) ?_
  exact hk23 a1 a2 a3 (x4 + 3) _ _ _ _ _ _ h hR (lv_sub hl [1, 2, 3, 4, 0] rfl)
def fL_law_191 (n d : Nat) (C : Cx) (C2 : Cx) (sc : Nat → Int32) (N : Nat) (k23 : Nat → Nat → Nat → Int32 → Mem → Rz) (a1 : Nat) (a2 : Nat) (a3 : Nat) (x4 : Int32) (M : Mem) : Rz := fL_law_370 n d C C2 sc N k23 a1 a2 a3 x4 M
set_option maxRecDepth 100000 in
set_option maxHeartbeats 4000000 in
theorem tL_law_191 {n : Nat} {k23 : Nat → Nat → Nat → Int32 → Mem → Rz} (F : FX p s m meth c G R M0 d "HeadCountLaw" bL_law 7 (some .boolean)) (hC : CBs l G d C) {C2 : Cx} {sc : Nat → Int32} {N b0 : Nat} (hd2 : d - 1 + 1 = d) (hC2 : CBs l G (d - 1) C2) (hX : Scr G s b0 N sc) (hk23 : ∀ (a1 : Nat) (a2 : Nat) (a3 : Nat) (x4 : Int32) (M : Mem) (H : Heap) (locs : List Loc) (cells slots : Nat) (ls : Array Slot), k23 a1 a2 a3 x4 M = some (r, M') → RL G M0 M H locs cells slots → lv_has ls 7 [(0, .ref b0), (1, .ref a1), (2, .ref a2), (3, .ref a3), (4, .int x4)] → W p l e R s m args below meth c H locs cells slots (CQ G below s M0 r M') (F0 m 23 ls [])) : ∀ (a1 : Nat) (a2 : Nat) (a3 : Nat) (x4 : Int32) (M : Mem) (H : Heap) (locs : List Loc) (cells slots : Nat) (ls : Array Slot), fL_law_191 n d C C2 sc N k23 a1 a2 a3 x4 M = some (r, M') → RL G M0 M H locs cells slots → lv_has ls 7 [(0, .ref b0), (1, .ref a1), (2, .ref a2), (3, .ref a3), (4, .int x4)] → W p l e R s m args below meth c H locs cells slots (CQ G below s M0 r M') (F0 m 191 ls []) := by
  obtain ⟨hx, hb, hml, hown, hrt, hlk, hex, hK, hRm⟩ := id F
  intro a1 a2 a3 x4 M H locs cells slots ls h hR hl
  unfold fL_law_191 at h
  refine lv_goto (tgt := 370) hx hb dL_law_191 (by decide) ?_
  exact tL_law_370 F hC hd2 hC2 hX hk23 a1 a2 a3 x4 _ _ _ _ _ _ h hR (lv_sub hl [0, 1, 2, 3, 4] rfl)
def fL_law_254 (n d : Nat) (C : Cx) (C2 : Cx) (sc : Nat → Int32) (N : Nat) (k23 : Nat → Nat → Nat → Int32 → Mem → Rz) (a1 : Nat) (a2 : Nat) (a3 : Nat) (x4 : Int32) (M : Mem) : Rz := fL_law_370 n d C C2 sc N k23 a1 a2 a3 x4 M
set_option maxRecDepth 100000 in
set_option maxHeartbeats 4000000 in
theorem tL_law_254 {n : Nat} {k23 : Nat → Nat → Nat → Int32 → Mem → Rz} (F : FX p s m meth c G R M0 d "HeadCountLaw" bL_law 7 (some .boolean)) (hC : CBs l G d C) {C2 : Cx} {sc : Nat → Int32} {N b0 : Nat} (hd2 : d - 1 + 1 = d) (hC2 : CBs l G (d - 1) C2) (hX : Scr G s b0 N sc) (hk23 : ∀ (a1 : Nat) (a2 : Nat) (a3 : Nat) (x4 : Int32) (M : Mem) (H : Heap) (locs : List Loc) (cells slots : Nat) (ls : Array Slot), k23 a1 a2 a3 x4 M = some (r, M') → RL G M0 M H locs cells slots → lv_has ls 7 [(0, .ref b0), (1, .ref a1), (2, .ref a2), (3, .ref a3), (4, .int x4)] → W p l e R s m args below meth c H locs cells slots (CQ G below s M0 r M') (F0 m 23 ls [])) : ∀ (a1 : Nat) (a2 : Nat) (a3 : Nat) (x4 : Int32) (M : Mem) (H : Heap) (locs : List Loc) (cells slots : Nat) (ls : Array Slot), fL_law_254 n d C C2 sc N k23 a1 a2 a3 x4 M = some (r, M') → RL G M0 M H locs cells slots → lv_has ls 7 [(0, .ref b0), (1, .ref a1), (2, .ref a2), (3, .ref a3), (4, .int x4)] → W p l e R s m args below meth c H locs cells slots (CQ G below s M0 r M') (F0 m 254 ls []) := by
  obtain ⟨hx, hb, hml, hown, hrt, hlk, hex, hK, hRm⟩ := id F
  intro a1 a2 a3 x4 M H locs cells slots ls h hR hl
  unfold fL_law_254 at h
  refine lv_goto (tgt := 370) hx hb dL_law_254 (by decide) ?_
  exact tL_law_370 F hC hd2 hC2 hX hk23 a1 a2 a3 x4 _ _ _ _ _ _ h hR (lv_sub hl [0, 1, 2, 3, 4] rfl)
def fL_law_248 (n d : Nat) (C : Cx) (C2 : Cx) (sc : Nat → Int32) (N : Nat) (k23 : Nat → Nat → Nat → Int32 → Mem → Rz) (a1 : Nat) (a2 : Nat) (a3 : Nat) (x4 : Int32) (ls0 : Int64) (ls1 : Int64) (M : Mem) : Rz := if (lg_cmp ls1 ls0) = 0 then (fL_law_254 n d C C2 sc N k23 a1 a2 a3 x4 M) else (if fits .boolean (.int 0) = true then (some (.inl (some (.int 0)), M)) else none)
set_option maxRecDepth 100000 in
set_option maxHeartbeats 4000000 in
theorem tL_law_248 {n : Nat} {k23 : Nat → Nat → Nat → Int32 → Mem → Rz} (F : FX p s m meth c G R M0 d "HeadCountLaw" bL_law 7 (some .boolean)) (hC : CBs l G d C) {C2 : Cx} {sc : Nat → Int32} {N b0 : Nat} (hd2 : d - 1 + 1 = d) (hC2 : CBs l G (d - 1) C2) (hX : Scr G s b0 N sc) (hk23 : ∀ (a1 : Nat) (a2 : Nat) (a3 : Nat) (x4 : Int32) (M : Mem) (H : Heap) (locs : List Loc) (cells slots : Nat) (ls : Array Slot), k23 a1 a2 a3 x4 M = some (r, M') → RL G M0 M H locs cells slots → lv_has ls 7 [(0, .ref b0), (1, .ref a1), (2, .ref a2), (3, .ref a3), (4, .int x4)] → W p l e R s m args below meth c H locs cells slots (CQ G below s M0 r M') (F0 m 23 ls [])) : ∀ (a1 : Nat) (a2 : Nat) (a3 : Nat) (x4 : Int32) (ls0 : Int64) (ls1 : Int64) (M : Mem) (H : Heap) (locs : List Loc) (cells slots : Nat) (ls : Array Slot), fL_law_248 n d C C2 sc N k23 a1 a2 a3 x4 ls0 ls1 M = some (r, M') → RL G M0 M H locs cells slots → lv_has ls 7 [(0, .ref b0), (1, .ref a1), (2, .ref a2), (3, .ref a3), (4, .int x4)] → W p l e R s m args below meth c H locs cells slots (CQ G below s M0 r M') (F0 m 248 ls [.long ls0, .long ls1]) := by
  obtain ⟨hx, hb, hml, hown, hrt, hlk, hex, hK, hRm⟩ := id F
  intro a1 a2 a3 x4 ls0 ls1 M H locs cells slots ls h hR hl
  unfold fL_law_248 at h
  refine W.lcmp hx hb dL_law_248 ?_
  refine lv_if_eq (tgt := 254) hx hb dL_law_249 (by decide) (fun c_1 => ?_) (fun c_1 => ?_)
  · replace h := rz_t c_1 h
    exact tL_law_254 F hC hd2 hC2 hX hk23 a1 a2 a3 x4 _ _ _ _ _ _ h hR (lv_sub hl [0, 1, 2, 3, 4] rfl)
  · replace h := rz_f c_1 h
    refine lv_iconst (v := 0) hx hb dL_law_252 (by decide) ?_
    obtain ⟨c_2, h⟩ := rz_chk h
    cases h
    exact rt_i hx hb hlk hrt (Or.inr (Or.inr rfl)) c_2 hR dL_law_253
def fL_law_298 (n d : Nat) (C : Cx) (C2 : Cx) (sc : Nat → Int32) (N : Nat) (k23 : Nat → Nat → Nat → Int32 → Mem → Rz) (a1 : Nat) (a2 : Nat) (a3 : Nat) (x4 : Int32) (M : Mem) : Rz := fL_law_370 n d C C2 sc N k23 a1 a2 a3 x4 M
set_option maxRecDepth 100000 in
set_option maxHeartbeats 4000000 in
theorem tL_law_298 {n : Nat} {k23 : Nat → Nat → Nat → Int32 → Mem → Rz} (F : FX p s m meth c G R M0 d "HeadCountLaw" bL_law 7 (some .boolean)) (hC : CBs l G d C) {C2 : Cx} {sc : Nat → Int32} {N b0 : Nat} (hd2 : d - 1 + 1 = d) (hC2 : CBs l G (d - 1) C2) (hX : Scr G s b0 N sc) (hk23 : ∀ (a1 : Nat) (a2 : Nat) (a3 : Nat) (x4 : Int32) (M : Mem) (H : Heap) (locs : List Loc) (cells slots : Nat) (ls : Array Slot), k23 a1 a2 a3 x4 M = some (r, M') → RL G M0 M H locs cells slots → lv_has ls 7 [(0, .ref b0), (1, .ref a1), (2, .ref a2), (3, .ref a3), (4, .int x4)] → W p l e R s m args below meth c H locs cells slots (CQ G below s M0 r M') (F0 m 23 ls [])) : ∀ (a1 : Nat) (a2 : Nat) (a3 : Nat) (x4 : Int32) (M : Mem) (H : Heap) (locs : List Loc) (cells slots : Nat) (ls : Array Slot), fL_law_298 n d C C2 sc N k23 a1 a2 a3 x4 M = some (r, M') → RL G M0 M H locs cells slots → lv_has ls 7 [(0, .ref b0), (1, .ref a1), (2, .ref a2), (3, .ref a3), (4, .int x4)] → W p l e R s m args below meth c H locs cells slots (CQ G below s M0 r M') (F0 m 298 ls []) := by
  obtain ⟨hx, hb, hml, hown, hrt, hlk, hex, hK, hRm⟩ := id F
  intro a1 a2 a3 x4 M H locs cells slots ls h hR hl
  unfold fL_law_298 at h
  refine lv_goto (tgt := 370) hx hb dL_law_298 (by decide) ?_
  exact tL_law_370 F hC hd2 hC2 hX hk23 a1 a2 a3 x4 _ _ _ _ _ _ h hR (lv_sub hl [0, 1, 2, 3, 4] rfl)
def fL_law_354 (n d : Nat) (C : Cx) (C2 : Cx) (sc : Nat → Int32) (N : Nat) (k23 : Nat → Nat → Nat → Int32 → Mem → Rz) (a1 : Nat) (a2 : Nat) (a3 : Nat) (x4 : Int32) (M : Mem) : Rz := fL_law_370 n d C C2 sc N k23 a1 a2 a3 x4 M
set_option maxRecDepth 100000 in
set_option maxHeartbeats 4000000 in
theorem tL_law_354 {n : Nat} {k23 : Nat → Nat → Nat → Int32 → Mem → Rz} (F : FX p s m meth c G R M0 d "HeadCountLaw" bL_law 7 (some .boolean)) (hC : CBs l G d C) {C2 : Cx} {sc : Nat → Int32} {N b0 : Nat} (hd2 : d - 1 + 1 = d) (hC2 : CBs l G (d - 1) C2) (hX : Scr G s b0 N sc) (hk23 : ∀ (a1 : Nat) (a2 : Nat) (a3 : Nat) (x4 : Int32) (M : Mem) (H : Heap) (locs : List Loc) (cells slots : Nat) (ls : Array Slot), k23 a1 a2 a3 x4 M = some (r, M') → RL G M0 M H locs cells slots → lv_has ls 7 [(0, .ref b0), (1, .ref a1), (2, .ref a2), (3, .ref a3), (4, .int x4)] → W p l e R s m args below meth c H locs cells slots (CQ G below s M0 r M') (F0 m 23 ls [])) : ∀ (a1 : Nat) (a2 : Nat) (a3 : Nat) (x4 : Int32) (M : Mem) (H : Heap) (locs : List Loc) (cells slots : Nat) (ls : Array Slot), fL_law_354 n d C C2 sc N k23 a1 a2 a3 x4 M = some (r, M') → RL G M0 M H locs cells slots → lv_has ls 7 [(0, .ref b0), (1, .ref a1), (2, .ref a2), (3, .ref a3), (4, .int x4)] → W p l e R s m args below meth c H locs cells slots (CQ G below s M0 r M') (F0 m 354 ls []) := by
  obtain ⟨hx, hb, hml, hown, hrt, hlk, hex, hK, hRm⟩ := id F
  intro a1 a2 a3 x4 M H locs cells slots ls h hR hl
  unfold fL_law_354 at h
  refine lv_goto (tgt := 370) hx hb dL_law_354 (by decide) ?_
  exact tL_law_370 F hC hd2 hC2 hX hk23 a1 a2 a3 x4 _ _ _ _ _ _ h hR (lv_sub hl [0, 1, 2, 3, 4] rfl)
def fL_law_23 (n d : Nat) (C : Cx) (C2 : Cx) (sc : Nat → Int32) (N : Nat) : Nat → Nat → Nat → Nat → Int32 → Mem → Rz
  | 0, _, _, _, _, _ => none
  | w + 1, a1, a2, a3, x4, M => if ((nI N) - 3) < x4 then (if fits .boolean (.int 1) = true then (some (.inl (some (.int 1)), M)) else none) else (if inA x4 N then (if ((sc (x4).toNatClampNeg) &&& 7) = 0 then (if inA (x4 + 1) N then (if inA (x4 + 2) N then (if mK M a1 = 1 then (rzC (C 5 [.ref a1, .long ((((sc (x4 + 1).toNatClampNeg).toInt64) <<< ((32 : Int32).toInt64 &&& 63)) ||| (((sc (x4 + 2).toNatClampNeg).toInt64) &&& 4294967295))] M) fun v_8 M_9 => (rzI v_8 fun x_12 => (if inA (x4 + 1) N then (if inA (x4 + 2) N then (if mK M_9 a2 = 5 then (rzC (C 67 [.ref a2, .long ((((sc (x4 + 1).toNatClampNeg).toInt64) <<< ((32 : Int32).toInt64 &&& 63)) ||| (((sc (x4 + 2).toNatClampNeg).toInt64) &&& 4294967295))] M_9) fun v_16 M_17 => (rzI v_16 fun x_20 => (if x_12 = x_20 then (fL_law_370 n d C C2 sc N (fL_law_23 n d C C2 sc N w) a1 a2 a3 x4 M_17) else (if fits .boolean (.int 0) = true then (some (.inl (some (.int 0)), M_17)) else none)))) else none) else none) else none))) else none) else none) else none) else (if ((sc (x4).toNatClampNeg) &&& 7) = 1 then (if mK M a1 = 1 then (rzC (C 8 [.ref a1] M) fun v_25 M_26 => (rzI v_25 fun x_29 => (if mK M_26 a2 = 5 then (rzC (C 68 [.ref a2] M_26) fun v_31 M_32 => (rzI v_31 fun x_35 => (if x_29 = x_35 then (fL_law_370 n d C C2 sc N (fL_law_23 n d C C2 sc N w) a1 a2 a3 x4 M_32) else (if fits .boolean (.int 0) = true then (some (.inl (some (.int 0)), M_32)) else none)))) else none))) else none) else (if ((sc (x4).toNatClampNeg) &&& 7) = 2 then (rzC (fL_read_0 n (d - 1) C2 (some a1) (some a3) M) fun v_39 M_40 => (rzI v_39 fun x_43 => (if mK M_40 a2 = 5 then (rzC (C 70 [.ref a2] M_40) fun v_45 M_46 => (rzI v_45 fun x_49 => (if mK M_46 a2 = 5 then (rzC (C 66 [.ref a2] M_46) fun v_51 M_52 => (rzI v_51 fun x_55 => (if x_55 = x_43 then (if x_43 = 0 then (if mK M_52 a3 = 24 then (if inA 0 (mL M_52 a3) then (if (lg_cmp (mJ M_52 a3 (0 : Int32).toNatClampNeg) (x_49.toInt64)) = 0 then (fL_law_191 n d C C2 sc N (fL_law_23 n d C C2 sc N w) a1 a2 a3 x4 M_52) else (if fits .boolean (.int 0) = true then (some (.inl (some (.int 0)), M_52)) else none)) else none) else none) else (fL_law_191 n d C C2 sc N (fL_law_23 n d C C2 sc N w) a1 a2 a3 x4 M_52)) else (if fits .boolean (.int 0) = true then (some (.inl (some (.int 0)), M_52)) else none)))) else none))) else none))) else (if ((sc (x4).toNatClampNeg) &&& 7) = 3 then (if inA (x4 + 1) N then (rzC (fL_holds_0 n (d - 1) C2 (some a1) (sc (x4 + 1).toNatClampNeg) (some a3) M) fun v_65 M_66 => (rzI v_65 fun x_69 => (if inA (x4 + 1) N then (if mK M_66 a2 = 5 then (rzC (C 94 [.ref a2, .int (sc (x4 + 1).toNatClampNeg)] M_66) fun v_72 M_73 => (rzI v_72 fun x_76 => (if mK M_73 a2 = 5 then (rzC (C 66 [.ref a2] M_73) fun v_78 M_79 => (rzI v_78 fun x_82 => (if x_82 = x_69 then (if x_69 = 0 then (if mK M_79 a3 = 24 then (if inA 0 (mL M_79 a3) then (if x_76 = 0 then (fL_law_248 n d C C2 sc N (fL_law_23 n d C C2 sc N w) a1 a2 a3 x4 0 (mJ M_79 a3 (0 : Int32).toNatClampNeg) M_79) else (fL_law_248 n d C C2 sc N (fL_law_23 n d C C2 sc N w) a1 a2 a3 x4 1 (mJ M_79 a3 (0 : Int32).toNatClampNeg) M_79)) else none) else none) else (fL_law_254 n d C C2 sc N (fL_law_23 n d C C2 sc N w) a1 a2 a3 x4 M_79)) else (if fits .boolean (.int 0) = true then (some (.inl (some (.int 0)), M_79)) else none)))) else none))) else none) else none))) else none) else (if ((sc (x4).toNatClampNeg) &&& 7) = 4 then (rzC (fL_fails_0 n (d - 1) C2 (some a1) (some a3) M) fun v_90 M_91 => (rzI v_90 fun x_94 => (if mK M_91 a2 = 5 then (rzC (C 104 [.ref a2] M_91) fun v_96 M_97 => (rzI v_96 fun x_100 => (if mK M_97 a2 = 5 then (rzC (C 66 [.ref a2] M_97) fun v_102 M_103 => (rzI v_102 fun x_106 => (if x_106 = x_94 then (if x_94 = 0 then (if mK M_103 a3 = 24 then (if inA 0 (mL M_103 a3) then (if (lg_cmp (mJ M_103 a3 (0 : Int32).toNatClampNeg) (x_100.toInt64)) = 0 then (fL_law_298 n d C C2 sc N (fL_law_23 n d C C2 sc N w) a1 a2 a3 x4 M_103) else (if fits .boolean (.int 0) = true then (some (.inl (some (.int 0)), M_103)) else none)) else none) else none) else (fL_law_298 n d C C2 sc N (fL_law_23 n d C C2 sc N w) a1 a2 a3 x4 M_103)) else (if fits .boolean (.int 0) = true then (some (.inl (some (.int 0)), M_103)) else none)))) else none))) else none))) else (if ((sc (x4).toNatClampNeg) &&& 7) = 5 then (if inA (x4 + 1) N then (rzC (fL_ways_0 n (d - 1) C2 (some a1) (sc (x4 + 1).toNatClampNeg) (some a3) M) fun v_116 M_117 => (rzI v_116 fun x_120 => (if inA (x4 + 1) N then (if mK M_117 a2 = 5 then (rzC (C 105 [.ref a2, .int (sc (x4 + 1).toNatClampNeg)] M_117) fun v_123 M_124 => (rzI v_123 fun x_127 => (if mK M_124 a2 = 5 then (rzC (C 66 [.ref a2] M_124) fun v_129 M_130 => (rzI v_129 fun x_133 => (if x_133 = x_120 then (if x_120 = 0 then (if mK M_130 a3 = 24 then (if inA 0 (mL M_130 a3) then (if (lg_cmp (mJ M_130 a3 (0 : Int32).toNatClampNeg) (x_127.toInt64)) = 0 then (fL_law_354 n d C C2 sc N (fL_law_23 n d C C2 sc N w) a1 a2 a3 x4 M_130) else (if fits .boolean (.int 0) = true then (some (.inl (some (.int 0)), M_130)) else none)) else none) else none) else (fL_law_354 n d C C2 sc N (fL_law_23 n d C C2 sc N w) a1 a2 a3 x4 M_130)) else (if fits .boolean (.int 0) = true then (some (.inl (some (.int 0)), M_130)) else none)))) else none))) else none) else none))) else none) else (if ((sc (x4).toNatClampNeg) &&& 7) = 6 then (if mK M a1 = 1 then (rzC (C 9 [.ref a1] M) fun v_143 M_144 => (rzI v_143 fun x_147 => (if mK M_144 a2 = 5 then (rzC (C 69 [.ref a2] M_144) fun v_149 M_150 => (rzI v_149 fun x_153 => (if x_147 = x_153 then (fL_law_370 n d C C2 sc N (fL_law_23 n d C C2 sc N w) a1 a2 a3 x4 M_150) else (if fits .boolean (.int 0) = true then (some (.inl (some (.int 0)), M_150)) else none)))) else none))) else none) else (fL_law_370 n d C C2 sc N (fL_law_23 n d C C2 sc N w) a1 a2 a3 x4 M)))))))) else none)
set_option maxRecDepth 100000 in
set_option maxHeartbeats 4000000 in
theorem tL_law_23 {n : Nat} (F : FX p s m meth c G R M0 d "HeadCountLaw" bL_law 7 (some .boolean)) (hC : CBs l G d C) {C2 : Cx} {sc : Nat → Int32} {N b0 : Nat} (hd2 : d - 1 + 1 = d) (hC2 : CBs l G (d - 1) C2) (hX : Scr G s b0 N sc) : ∀ (w : Nat) (a1 : Nat) (a2 : Nat) (a3 : Nat) (x4 : Int32) (M : Mem) (H : Heap) (locs : List Loc) (cells slots : Nat) (ls : Array Slot), fL_law_23 n d C C2 sc N w a1 a2 a3 x4 M = some (r, M') → RL G M0 M H locs cells slots → lv_has ls 7 [(0, .ref b0), (1, .ref a1), (2, .ref a2), (3, .ref a3), (4, .int x4)] → W p l e R s m args below meth c H locs cells slots (CQ G below s M0 r M') (F0 m 23 ls []) := by
  obtain ⟨hx, hb, hml, hown, hrt, hlk, hex, hK, hRm⟩ := id F
  intro w
  induction w with
  | zero => intro a1 a2 a3 x4 M H locs cells slots ls h; cases h
  | succ w ih =>
    intro a1 a2 a3 x4 M H locs cells slots ls h hR hl
    rw [fL_law_23] at h
    refine lv_iload hx hb dL_law_23 (lv_at hl 4 rfl) ?_
    refine lv_aload_n hx hb dL_law_25 rfl (lv_at hl 0 rfl) ?_
    refine rl_slen hx hb hX hR dL_law_26 ?_
    refine lv_iconst (v := 3) hx hb dL_law_27 (by decide) ?_
    refine lv_isub hx hb dL_law_28 ?_
    refine lv_icmp_gt (tgt := 376) hx hb dL_law_29 (by decide) (fun c_1 => ?_) (fun c_1 => ?_)
    · replace h := rz_t c_1 h
      refine lv_iconst (v := 1) hx hb dL_law_376 (by decide) ?_
      obtain ⟨c_2, h⟩ := rz_chk h
      cases h
      exact rt_i hx hb hlk hrt (Or.inr (Or.inr rfl)) c_2 hR dL_law_377
    · replace h := rz_f c_1 h
      refine lv_aload_n hx hb dL_law_32 rfl (lv_at hl 0 rfl) ?_
      refine lv_iload hx hb dL_law_33 (lv_at hl 4 rfl) ?_
      obtain ⟨c_3, h⟩ := rz_chk h
      refine rl_sld hx hb hX hR c_3 dL_law_35 ?_
      refine lv_bipush (v := 7) hx hb dL_law_36 (by decide) ?_
      refine lv_iand hx hb dL_law_38 ?_
      by_cases c_4 : ((sc (x4).toNatClampNeg) &&& 7) = 0
      · replace h := rz_t c_4 h
        refine lv_tableIn (off := 41) (tgt := 80) hx hb dL_law_39 (by rw [c_4]; decide) (by rw [c_4]; decide) (by rw [c_4]; decide) (by decide) ?_
        refine lv_aload_n hx hb dL_law_80 rfl (lv_at hl 1 rfl) ?_
        refine lv_aload_n hx hb dL_law_81 rfl (lv_at hl 0 rfl) ?_
        refine lv_iload hx hb dL_law_82 (lv_at hl 4 rfl) ?_
        refine lv_iconst (v := 1) hx hb dL_law_84 (by decide) ?_
        refine lv_iadd hx hb dL_law_85 ?_
        obtain ⟨c_5, h⟩ := rz_chk h
        refine rl_sld hx hb hX hR c_5 dL_law_86 ?_
        refine lv_i2l hx hb dL_law_87 rfl ?_
        refine lv_bipush (v := 32) hx hb dL_law_88 (by decide) ?_
        refine lv_lshl hx hb dL_law_90 rfl ?_
        refine lv_aload_n hx hb dL_law_91 rfl (lv_at hl 0 rfl) ?_
        refine lv_iload hx hb dL_law_92 (lv_at hl 4 rfl) ?_
        refine lv_iconst (v := 2) hx hb dL_law_94 (by decide) ?_
        refine lv_iadd hx hb dL_law_95 ?_
        obtain ⟨c_6, h⟩ := rz_chk h
        refine rl_sld hx hb hX hR c_6 dL_law_96 ?_
        refine lv_i2l hx hb dL_law_97 rfl ?_
        refine lv_ldc2 (v := 4294967295) hx hb hown (hK.w kq_L_32 rfl args) dL_law_98 ?_
        refine lv_land hx hb dL_law_101 ?_
        refine lv_lor hx hb dL_law_102 ?_
        obtain ⟨c_7, h⟩ := rz_chk h
        obtain ⟨q_11, M_9, h_10, h⟩ := rz_c h
        refine rc_V (rest := []) (As := [.long ((((sc (x4 + 1).toNatClampNeg).toInt64) <<< ((32 : Int32).toInt64 &&& 63)) ||| (((sc (x4 + 2).toNatClampNeg).toInt64) &&& 4294967295))]) hx hb (hl.1.trans hml.symm) hown hK hR hRm mfH_write kl_L_34 hk_H rfl rfl c_7 (by simp [cat_rf, cat_i, cat_a, cat_l, cat_n]) (hC 5 _ _ _ _ h_10) dL_law_103 (fun v1 H locs cells slots ev hR => ?_) (fun x1 q1 ce1 H locs cells slots ex hR g1 g2 g3 => ?_)
        · rcases h with ⟨v_8, ev2, h⟩ | ⟨e2, ee2, -⟩
          · cases ev.symm.trans ev2
            replace h := rz_i h
            obtain ⟨x_12, rfl, h⟩ := h
            dsimp only [Option.toList, List.cons_append, List.nil_append]
            refine lv_aload_n hx hb dL_law_106 rfl (lv_at hl 2 rfl) ?_
            refine lv_aload_n hx hb dL_law_107 rfl (lv_at hl 0 rfl) ?_
            refine lv_iload hx hb dL_law_108 (lv_at hl 4 rfl) ?_
            refine lv_iconst (v := 1) hx hb dL_law_110 (by decide) ?_
            refine lv_iadd hx hb dL_law_111 ?_
            obtain ⟨c_13, h⟩ := rz_chk h
            refine rl_sld hx hb hX hR c_13 dL_law_112 ?_
            refine lv_i2l hx hb dL_law_113 rfl ?_
            refine lv_bipush (v := 32) hx hb dL_law_114 (by decide) ?_
            refine lv_lshl hx hb dL_law_116 rfl ?_
            refine lv_aload_n hx hb dL_law_117 rfl (lv_at hl 0 rfl) ?_
            refine lv_iload hx hb dL_law_118 (lv_at hl 4 rfl) ?_
            refine lv_iconst (v := 2) hx hb dL_law_120 (by decide) ?_
            refine lv_iadd hx hb dL_law_121 ?_
            obtain ⟨c_14, h⟩ := rz_chk h
            refine rl_sld hx hb hX hR c_14 dL_law_122 ?_
            refine lv_i2l hx hb dL_law_123 rfl ?_
            refine lv_ldc2 (v := 4294967295) hx hb hown (hK.w kq_L_32 rfl args) dL_law_124 ?_
            refine lv_land hx hb dL_law_127 ?_
            refine lv_lor hx hb dL_law_128 ?_
            obtain ⟨c_15, h⟩ := rz_chk h
            obtain ⟨q_19, M_17, h_18, h⟩ := rz_c h
            refine rc_V (rest := [.int x_12]) (As := [.long ((((sc (x4 + 1).toNatClampNeg).toInt64) <<< ((32 : Int32).toInt64 &&& 63)) ||| (((sc (x4 + 2).toNatClampNeg).toInt64) &&& 4294967295))]) hx hb (hl.1.trans hml.symm) hown hK hR hRm mfM_write kl_L_38 hk_M rfl rfl c_15 (by simp [cat_rf, cat_i, cat_a, cat_l, cat_n]) (hC 67 _ _ _ _ h_18) dL_law_129 (fun v1 H locs cells slots ev hR => ?_) (fun x1 q1 ce1 H locs cells slots ex hR g1 g2 g3 => ?_)
            · rcases h with ⟨v_16, ev2, h⟩ | ⟨e2, ee2, -⟩
              · cases ev.symm.trans ev2
                replace h := rz_i h
                obtain ⟨x_20, rfl, h⟩ := h
                dsimp only [Option.toList, List.cons_append, List.nil_append]
                refine lv_icmp_eq (tgt := 370) hx hb dL_law_132 (by decide) (fun c_21 => ?_) (fun c_21 => ?_)
                · replace h := rz_t c_21 h
                  exact tL_law_370 F hC hd2 hC2 hX ih a1 a2 a3 x4 _ _ _ _ _ _ h hR (lv_sub hl [0, 1, 2, 3, 4] rfl)
                · replace h := rz_f c_21 h
                  refine lv_iconst (v := 0) hx hb dL_law_135 (by decide) ?_
                  obtain ⟨c_22, h⟩ := rz_chk h
                  cases h
                  exact rt_i hx hb hlk hrt (Or.inr (Or.inr rfl)) c_22 hR dL_law_136
              · cases ev.symm.trans ee2
            · rcases h with ⟨v2, ev2, -⟩ | ⟨e2, ee2, h⟩
              · cases ex.symm.trans ev2
              · cases ex.symm.trans ee2
                cases h
                exact rt_x hlk hex hR g1 g2 g3
          · cases ev.symm.trans ee2
        · rcases h with ⟨v2, ev2, -⟩ | ⟨e2, ee2, h⟩
          · cases ex.symm.trans ev2
          · cases ex.symm.trans ee2
            cases h
            exact rt_x hlk hex hR g1 g2 g3
      · replace h := rz_f c_4 h
        by_cases c_23 : ((sc (x4).toNatClampNeg) &&& 7) = 1
        · replace h := rz_t c_23 h
          refine lv_tableIn (off := 98) (tgt := 137) hx hb dL_law_39 (by rw [c_23]; decide) (by rw [c_23]; decide) (by rw [c_23]; decide) (by decide) ?_
          refine lv_aload_n hx hb dL_law_137 rfl (lv_at hl 1 rfl) ?_
          obtain ⟨c_24, h⟩ := rz_chk h
          obtain ⟨q_28, M_26, h_27, h⟩ := rz_c h
          refine rc_V (rest := []) (As := []) hx hb (hl.1.trans hml.symm) hown hK hR hRm mfH_wipe kl_L_39 hk_H rfl rfl c_24 (by simp [cat_rf, cat_i, cat_a, cat_l, cat_n]) (hC 8 _ _ _ _ h_27) dL_law_138 (fun v1 H locs cells slots ev hR => ?_) (fun x1 q1 ce1 H locs cells slots ex hR g1 g2 g3 => ?_)
          · rcases h with ⟨v_25, ev2, h⟩ | ⟨e2, ee2, -⟩
            · cases ev.symm.trans ev2
              replace h := rz_i h
              obtain ⟨x_29, rfl, h⟩ := h
              dsimp only [Option.toList, List.cons_append, List.nil_append]
              refine lv_aload_n hx hb dL_law_141 rfl (lv_at hl 2 rfl) ?_
              obtain ⟨c_30, h⟩ := rz_chk h
              obtain ⟨q_34, M_32, h_33, h⟩ := rz_c h
              refine rc_V (rest := [.int x_29]) (As := []) hx hb (hl.1.trans hml.symm) hown hK hR hRm mfM_wipe kl_L_42 hk_M rfl rfl c_30 (by simp [cat_rf, cat_i, cat_a, cat_l, cat_n]) (hC 68 _ _ _ _ h_33) dL_law_142 (fun v1 H locs cells slots ev hR => ?_) (fun x1 q1 ce1 H locs cells slots ex hR g1 g2 g3 => ?_)
              · rcases h with ⟨v_31, ev2, h⟩ | ⟨e2, ee2, -⟩
                · cases ev.symm.trans ev2
                  replace h := rz_i h
                  obtain ⟨x_35, rfl, h⟩ := h
                  dsimp only [Option.toList, List.cons_append, List.nil_append]
                  refine lv_icmp_eq (tgt := 370) hx hb dL_law_145 (by decide) (fun c_36 => ?_) (fun c_36 => ?_)
                  · replace h := rz_t c_36 h
                    exact tL_law_370 F hC hd2 hC2 hX ih a1 a2 a3 x4 _ _ _ _ _ _ h hR (lv_sub hl [0, 1, 2, 3, 4] rfl)
                  · replace h := rz_f c_36 h
                    refine lv_iconst (v := 0) hx hb dL_law_148 (by decide) ?_
                    obtain ⟨c_37, h⟩ := rz_chk h
                    cases h
                    exact rt_i hx hb hlk hrt (Or.inr (Or.inr rfl)) c_37 hR dL_law_149
                · cases ev.symm.trans ee2
              · rcases h with ⟨v2, ev2, -⟩ | ⟨e2, ee2, h⟩
                · cases ex.symm.trans ev2
                · cases ex.symm.trans ee2
                  cases h
                  exact rt_x hlk hex hR g1 g2 g3
            · cases ev.symm.trans ee2
          · rcases h with ⟨v2, ev2, -⟩ | ⟨e2, ee2, h⟩
            · cases ex.symm.trans ev2
            · cases ex.symm.trans ee2
              cases h
              exact rt_x hlk hex hR g1 g2 g3
        · replace h := rz_f c_23 h
          by_cases c_38 : ((sc (x4).toNatClampNeg) &&& 7) = 2
          · replace h := rz_t c_38 h
            refine lv_tableIn (off := 111) (tgt := 150) hx hb dL_law_39 (by rw [c_38]; decide) (by rw [c_38]; decide) (by rw [c_38]; decide) (by decide) ?_
            refine lv_aload_n hx hb dL_law_150 rfl (lv_at hl 1 rfl) ?_
            refine lv_aload_n hx hb dL_law_151 rfl (lv_at hl 3 rfl) ?_
            obtain ⟨q_42, M_40, h_41, h⟩ := rz_c h
            refine rc_SW (rest := []) (As := [.ref a1, .ref a3]) hx hb (hl.1.trans hml.symm) hown hK hR hRm mtL_read kl_ini mwL_read (by decide) ⟨by decide, by decide⟩ (by decide) (n := 2) (by decide +kernel) kl_L_43 rfl (by simp [cat_rf, cat_i, cat_a, cat_l, cat_n]) (by have h9 := sL_read hC2 (some a1) (some a3) h_41; rw [hd2] at h9; exact h9) dL_law_152 (fun v1 H locs cells slots ev hR => ?_) (fun x1 q1 ce1 H locs cells slots ex hR g1 g2 g3 => ?_)
            · rcases h with ⟨v_39, ev2, h⟩ | ⟨e2, ee2, -⟩
              · cases ev.symm.trans ev2
                replace h := rz_i h
                obtain ⟨x_43, rfl, h⟩ := h
                dsimp only [Option.toList, List.cons_append, List.nil_append]
                refine lv_istore (lv' := [(5, .int x_43), (0, .ref b0), (1, .ref a1), (2, .ref a2), (3, .ref a3), (4, .int x4)]) hx hb dL_law_155 hl (by decide) rfl (fun ls hl => ?_)
                refine lv_aload_n hx hb dL_law_157 rfl (lv_at hl 3 rfl) ?_
                obtain ⟨c_44, h⟩ := rz_chk h
                obtain ⟨q_48, M_46, h_47, h⟩ := rz_c h
                refine rc_V (rest := []) (As := []) hx hb (hl.1.trans hml.symm) hown hK hR hRm mfM_read kl_L_48 hk_M rfl rfl c_44 (by simp [cat_rf, cat_i, cat_a, cat_l, cat_n]) (hC 70 _ _ _ _ h_47) dL_law_158 (fun v1 H locs cells slots ev hR => ?_) (fun x1 q1 ce1 H locs cells slots ex hR g1 g2 g3 => ?_)
                · rcases h with ⟨v_45, ev2, h⟩ | ⟨e2, ee2, -⟩
                  · cases ev.symm.trans ev2
                    replace h := rz_i h
                    obtain ⟨x_49, rfl, h⟩ := h
                    dsimp only [Option.toList, List.cons_append, List.nil_append]
                    refine lv_istore (lv' := [(6, .int x_49), (5, .int x_43), (0, .ref b0), (1, .ref a1), (2, .ref a2), (3, .ref a3), (4, .int x4)]) hx hb dL_law_161 hl (by decide) rfl (fun ls hl => ?_)
                    refine lv_aload_n hx hb dL_law_163 rfl (lv_at hl 4 rfl) ?_
                    obtain ⟨c_50, h⟩ := rz_chk h
                    obtain ⟨q_54, M_52, h_53, h⟩ := rz_c h
                    refine rc_V (rest := []) (As := []) hx hb (hl.1.trans hml.symm) hown hK hR hRm mfM_thrown kl_L_49 hk_M rfl rfl c_50 (by simp [cat_rf, cat_i, cat_a, cat_l, cat_n]) (hC 66 _ _ _ _ h_53) dL_law_164 (fun v1 H locs cells slots ev hR => ?_) (fun x1 q1 ce1 H locs cells slots ex hR g1 g2 g3 => ?_)
                    · rcases h with ⟨v_51, ev2, h⟩ | ⟨e2, ee2, -⟩
                      · cases ev.symm.trans ev2
                        replace h := rz_i h
                        obtain ⟨x_55, rfl, h⟩ := h
                        dsimp only [Option.toList, List.cons_append, List.nil_append]
                        refine lv_iload hx hb dL_law_167 (lv_at hl 1 rfl) ?_
                        refine lv_icmp_eq (tgt := 174) hx hb dL_law_169 (by decide) (fun c_56 => ?_) (fun c_56 => ?_)
                        · replace h := rz_t c_56 h
                          refine lv_iload hx hb dL_law_174 (lv_at hl 1 rfl) ?_
                          refine lv_if_ne (tgt := 191) hx hb dL_law_176 (by decide) (fun c_57 => ?_) (fun c_57 => ?_)
                          · replace h := rz_f c_57 h
                            exact tL_law_191 F hC hd2 hC2 hX ih a1 a2 a3 x4 _ _ _ _ _ _ h hR (lv_sub hl [2, 3, 4, 5, 6] rfl)
                          · replace h := rz_t c_57 h
                            refine lv_aload_n hx hb dL_law_179 rfl (lv_at hl 5 rfl) ?_
                            refine lv_iconst (v := 0) hx hb dL_law_180 (by decide) ?_
                            obtain ⟨c_58, h⟩ := rz_chk h
                            obtain ⟨c_59, h⟩ := rz_chk h
                            refine rg_lald hx hb hK hR c_58 c_59 dL_law_181 ?_
                            refine lv_iload hx hb dL_law_182 (lv_at hl 0 rfl) ?_
                            refine lv_i2l hx hb dL_law_184 rfl ?_
                            refine W.lcmp hx hb dL_law_185 ?_
                            refine lv_if_eq (tgt := 191) hx hb dL_law_186 (by decide) (fun c_60 => ?_) (fun c_60 => ?_)
                            · replace h := rz_t c_60 h
                              exact tL_law_191 F hC hd2 hC2 hX ih a1 a2 a3 x4 _ _ _ _ _ _ h hR (lv_sub hl [2, 3, 4, 5, 6] rfl)
                            · replace h := rz_f c_60 h
                              refine lv_iconst (v := 0) hx hb dL_law_189 (by decide) ?_
                              obtain ⟨c_61, h⟩ := rz_chk h
                              cases h
                              exact rt_i hx hb hlk hrt (Or.inr (Or.inr rfl)) c_61 hR dL_law_190
                        · replace h := rz_f c_56 h
                          refine lv_iconst (v := 0) hx hb dL_law_172 (by decide) ?_
                          obtain ⟨c_62, h⟩ := rz_chk h
                          cases h
                          exact rt_i hx hb hlk hrt (Or.inr (Or.inr rfl)) c_62 hR dL_law_173
                      · cases ev.symm.trans ee2
                    · rcases h with ⟨v2, ev2, -⟩ | ⟨e2, ee2, h⟩
                      · cases ex.symm.trans ev2
                      · cases ex.symm.trans ee2
                        cases h
                        exact rt_x hlk hex hR g1 g2 g3
                  · cases ev.symm.trans ee2
                · rcases h with ⟨v2, ev2, -⟩ | ⟨e2, ee2, h⟩
                  · cases ex.symm.trans ev2
                  · cases ex.symm.trans ee2
                    cases h
                    exact rt_x hlk hex hR g1 g2 g3
              · cases ev.symm.trans ee2
            · rcases h with ⟨v2, ev2, -⟩ | ⟨e2, ee2, h⟩
              · cases ex.symm.trans ev2
              · cases ex.symm.trans ee2
                cases h
                exact rt_x hlk hex hR g1 g2 g3
          · replace h := rz_f c_38 h
            by_cases c_63 : ((sc (x4).toNatClampNeg) &&& 7) = 3
            · replace h := rz_t c_63 h
              refine lv_tableIn (off := 155) (tgt := 194) hx hb dL_law_39 (by rw [c_63]; decide) (by rw [c_63]; decide) (by rw [c_63]; decide) (by decide) ?_
              refine lv_aload_n hx hb dL_law_194 rfl (lv_at hl 1 rfl) ?_
              refine lv_aload_n hx hb dL_law_195 rfl (lv_at hl 0 rfl) ?_
              refine lv_iload hx hb dL_law_196 (lv_at hl 4 rfl) ?_
              refine lv_iconst (v := 1) hx hb dL_law_198 (by decide) ?_
              refine lv_iadd hx hb dL_law_199 ?_
              obtain ⟨c_64, h⟩ := rz_chk h
              refine rl_sld hx hb hX hR c_64 dL_law_200 ?_
              refine lv_aload_n hx hb dL_law_201 rfl (lv_at hl 3 rfl) ?_
              obtain ⟨q_68, M_66, h_67, h⟩ := rz_c h
              refine rc_SW (rest := []) (As := [.ref a1, .int (sc (x4 + 1).toNatClampNeg), .ref a3]) hx hb (hl.1.trans hml.symm) hown hK hR hRm mtL_holds kl_ini mwL_holds (by decide) ⟨by decide, by decide⟩ (by decide) (n := 3) (by decide +kernel) kl_L_52 rfl (by simp [cat_rf, cat_i, cat_a, cat_l, cat_n]) (by have h9 := sL_holds hC2 (some a1) (sc (x4 + 1).toNatClampNeg) (some a3) h_67; rw [hd2] at h9; exact h9) dL_law_202 (fun v1 H locs cells slots ev hR => ?_) (fun x1 q1 ce1 H locs cells slots ex hR g1 g2 g3 => ?_)
              · rcases h with ⟨v_65, ev2, h⟩ | ⟨e2, ee2, -⟩
                · cases ev.symm.trans ev2
                  replace h := rz_i h
                  obtain ⟨x_69, rfl, h⟩ := h
                  dsimp only [Option.toList, List.cons_append, List.nil_append]
                  refine lv_istore (lv' := [(5, .int x_69), (0, .ref b0), (1, .ref a1), (2, .ref a2), (3, .ref a3), (4, .int x4)]) hx hb dL_law_205 hl (by decide) rfl (fun ls hl => ?_)
                  refine lv_aload_n hx hb dL_law_207 rfl (lv_at hl 3 rfl) ?_
                  refine lv_aload_n hx hb dL_law_208 rfl (lv_at hl 1 rfl) ?_
                  refine lv_iload hx hb dL_law_209 (lv_at hl 5 rfl) ?_
                  refine lv_iconst (v := 1) hx hb dL_law_211 (by decide) ?_
                  refine lv_iadd hx hb dL_law_212 ?_
                  obtain ⟨c_70, h⟩ := rz_chk h
                  refine rl_sld hx hb hX hR c_70 dL_law_213 ?_
                  obtain ⟨c_71, h⟩ := rz_chk h
                  obtain ⟨q_75, M_73, h_74, h⟩ := rz_c h
                  refine rc_V (rest := []) (As := [.int (sc (x4 + 1).toNatClampNeg)]) hx hb (hl.1.trans hml.symm) hown hK hR hRm mfM_holds kl_L_55 hk_M rfl rfl c_71 (by simp [cat_rf, cat_i, cat_a, cat_l, cat_n]) (hC 94 _ _ _ _ h_74) dL_law_214 (fun v1 H locs cells slots ev hR => ?_) (fun x1 q1 ce1 H locs cells slots ex hR g1 g2 g3 => ?_)
                  · rcases h with ⟨v_72, ev2, h⟩ | ⟨e2, ee2, -⟩
                    · cases ev.symm.trans ev2
                      replace h := rz_i h
                      obtain ⟨x_76, rfl, h⟩ := h
                      dsimp only [Option.toList, List.cons_append, List.nil_append]
                      refine lv_istore (lv' := [(6, .int x_76), (5, .int x_69), (0, .ref b0), (1, .ref a1), (2, .ref a2), (3, .ref a3), (4, .int x4)]) hx hb dL_law_217 hl (by decide) rfl (fun ls hl => ?_)
                      refine lv_aload_n hx hb dL_law_219 rfl (lv_at hl 4 rfl) ?_
                      obtain ⟨c_77, h⟩ := rz_chk h
                      obtain ⟨q_81, M_79, h_80, h⟩ := rz_c h
                      refine rc_V (rest := []) (As := []) hx hb (hl.1.trans hml.symm) hown hK hR hRm mfM_thrown kl_L_49 hk_M rfl rfl c_77 (by simp [cat_rf, cat_i, cat_a, cat_l, cat_n]) (hC 66 _ _ _ _ h_80) dL_law_220 (fun v1 H locs cells slots ev hR => ?_) (fun x1 q1 ce1 H locs cells slots ex hR g1 g2 g3 => ?_)
                      · rcases h with ⟨v_78, ev2, h⟩ | ⟨e2, ee2, -⟩
                        · cases ev.symm.trans ev2
                          replace h := rz_i h
                          obtain ⟨x_82, rfl, h⟩ := h
                          dsimp only [Option.toList, List.cons_append, List.nil_append]
                          refine lv_iload hx hb dL_law_223 (lv_at hl 1 rfl) ?_
                          refine lv_icmp_eq (tgt := 230) hx hb dL_law_225 (by decide) (fun c_83 => ?_) (fun c_83 => ?_)
                          · replace h := rz_t c_83 h
                            refine lv_iload hx hb dL_law_230 (lv_at hl 1 rfl) ?_
                            refine lv_if_ne (tgt := 254) hx hb dL_law_232 (by decide) (fun c_84 => ?_) (fun c_84 => ?_)
                            · replace h := rz_f c_84 h
                              exact tL_law_254 F hC hd2 hC2 hX ih a1 a2 a3 x4 _ _ _ _ _ _ h hR (lv_sub hl [2, 3, 4, 5, 6] rfl)
                            · replace h := rz_t c_84 h
                              refine lv_aload_n hx hb dL_law_235 rfl (lv_at hl 5 rfl) ?_
                              refine lv_iconst (v := 0) hx hb dL_law_236 (by decide) ?_
                              obtain ⟨c_85, h⟩ := rz_chk h
                              obtain ⟨c_86, h⟩ := rz_chk h
                              refine rg_lald hx hb hK hR c_85 c_86 dL_law_237 ?_
                              refine lv_iload hx hb dL_law_238 (lv_at hl 0 rfl) ?_
                              refine lv_if_eq (tgt := 247) hx hb dL_law_240 (by decide) (fun c_87 => ?_) (fun c_87 => ?_)
                              · replace h := rz_t c_87 h
                                refine lv_lconst (v := 0) hx hb dL_law_247 (by decide) ?_
                                exact tL_law_248 F hC hd2 hC2 hX ih a1 a2 a3 x4 0 (mJ M_79 a3 (0 : Int32).toNatClampNeg) _ _ _ _ _ _ h hR (lv_sub hl [2, 3, 4, 5, 6] rfl)
                              · replace h := rz_f c_87 h
                                refine lv_lconst (v := 1) hx hb dL_law_243 (by decide) ?_
                                refine lv_goto (tgt := 248) hx hb dL_law_244 (by decide) ?_
                                exact tL_law_248 F hC hd2 hC2 hX ih a1 a2 a3 x4 1 (mJ M_79 a3 (0 : Int32).toNatClampNeg) _ _ _ _ _ _ h hR (lv_sub hl [2, 3, 4, 5, 6] rfl)
                          · replace h := rz_f c_83 h
                            refine lv_iconst (v := 0) hx hb dL_law_228 (by decide) ?_
                            obtain ⟨c_88, h⟩ := rz_chk h
                            cases h
                            exact rt_i hx hb hlk hrt (Or.inr (Or.inr rfl)) c_88 hR dL_law_229
                        · cases ev.symm.trans ee2
                      · rcases h with ⟨v2, ev2, -⟩ | ⟨e2, ee2, h⟩
                        · cases ex.symm.trans ev2
                        · cases ex.symm.trans ee2
                          cases h
                          exact rt_x hlk hex hR g1 g2 g3
                    · cases ev.symm.trans ee2
                  · rcases h with ⟨v2, ev2, -⟩ | ⟨e2, ee2, h⟩
                    · cases ex.symm.trans ev2
                    · cases ex.symm.trans ee2
                      cases h
                      exact rt_x hlk hex hR g1 g2 g3
                · cases ev.symm.trans ee2
              · rcases h with ⟨v2, ev2, -⟩ | ⟨e2, ee2, h⟩
                · cases ex.symm.trans ev2
                · cases ex.symm.trans ee2
                  cases h
                  exact rt_x hlk hex hR g1 g2 g3
            · replace h := rz_f c_63 h
              by_cases c_89 : ((sc (x4).toNatClampNeg) &&& 7) = 4
              · replace h := rz_t c_89 h
                refine lv_tableIn (off := 218) (tgt := 257) hx hb dL_law_39 (by rw [c_89]; decide) (by rw [c_89]; decide) (by rw [c_89]; decide) (by decide) ?_
                refine lv_aload_n hx hb dL_law_257 rfl (lv_at hl 1 rfl) ?_
                refine lv_aload_n hx hb dL_law_258 rfl (lv_at hl 3 rfl) ?_
                obtain ⟨q_93, M_91, h_92, h⟩ := rz_c h
                refine rc_SW (rest := []) (As := [.ref a1, .ref a3]) hx hb (hl.1.trans hml.symm) hown hK hR hRm mtL_fails kl_ini mwL_fails (by decide) ⟨by decide, by decide⟩ (by decide) (n := 2) (by decide +kernel) kl_L_56 rfl (by simp [cat_rf, cat_i, cat_a, cat_l, cat_n]) (by have h9 := sL_fails hC2 (some a1) (some a3) h_92; rw [hd2] at h9; exact h9) dL_law_259 (fun v1 H locs cells slots ev hR => ?_) (fun x1 q1 ce1 H locs cells slots ex hR g1 g2 g3 => ?_)
                · rcases h with ⟨v_90, ev2, h⟩ | ⟨e2, ee2, -⟩
                  · cases ev.symm.trans ev2
                    replace h := rz_i h
                    obtain ⟨x_94, rfl, h⟩ := h
                    dsimp only [Option.toList, List.cons_append, List.nil_append]
                    refine lv_istore (lv' := [(5, .int x_94), (0, .ref b0), (1, .ref a1), (2, .ref a2), (3, .ref a3), (4, .int x4)]) hx hb dL_law_262 hl (by decide) rfl (fun ls hl => ?_)
                    refine lv_aload_n hx hb dL_law_264 rfl (lv_at hl 3 rfl) ?_
                    obtain ⟨c_95, h⟩ := rz_chk h
                    obtain ⟨q_99, M_97, h_98, h⟩ := rz_c h
                    refine rc_V (rest := []) (As := []) hx hb (hl.1.trans hml.symm) hown hK hR hRm mfM_fails kl_L_58 hk_M rfl rfl c_95 (by simp [cat_rf, cat_i, cat_a, cat_l, cat_n]) (hC 104 _ _ _ _ h_98) dL_law_265 (fun v1 H locs cells slots ev hR => ?_) (fun x1 q1 ce1 H locs cells slots ex hR g1 g2 g3 => ?_)
                    · rcases h with ⟨v_96, ev2, h⟩ | ⟨e2, ee2, -⟩
                      · cases ev.symm.trans ev2
                        replace h := rz_i h
                        obtain ⟨x_100, rfl, h⟩ := h
                        dsimp only [Option.toList, List.cons_append, List.nil_append]
                        refine lv_istore (lv' := [(6, .int x_100), (5, .int x_94), (0, .ref b0), (1, .ref a1), (2, .ref a2), (3, .ref a3), (4, .int x4)]) hx hb dL_law_268 hl (by decide) rfl (fun ls hl => ?_)
                        refine lv_aload_n hx hb dL_law_270 rfl (lv_at hl 4 rfl) ?_
                        obtain ⟨c_101, h⟩ := rz_chk h
                        obtain ⟨q_105, M_103, h_104, h⟩ := rz_c h
                        refine rc_V (rest := []) (As := []) hx hb (hl.1.trans hml.symm) hown hK hR hRm mfM_thrown kl_L_49 hk_M rfl rfl c_101 (by simp [cat_rf, cat_i, cat_a, cat_l, cat_n]) (hC 66 _ _ _ _ h_104) dL_law_271 (fun v1 H locs cells slots ev hR => ?_) (fun x1 q1 ce1 H locs cells slots ex hR g1 g2 g3 => ?_)
                        · rcases h with ⟨v_102, ev2, h⟩ | ⟨e2, ee2, -⟩
                          · cases ev.symm.trans ev2
                            replace h := rz_i h
                            obtain ⟨x_106, rfl, h⟩ := h
                            dsimp only [Option.toList, List.cons_append, List.nil_append]
                            refine lv_iload hx hb dL_law_274 (lv_at hl 1 rfl) ?_
                            refine lv_icmp_eq (tgt := 281) hx hb dL_law_276 (by decide) (fun c_107 => ?_) (fun c_107 => ?_)
                            · replace h := rz_t c_107 h
                              refine lv_iload hx hb dL_law_281 (lv_at hl 1 rfl) ?_
                              refine lv_if_ne (tgt := 298) hx hb dL_law_283 (by decide) (fun c_108 => ?_) (fun c_108 => ?_)
                              · replace h := rz_f c_108 h
                                exact tL_law_298 F hC hd2 hC2 hX ih a1 a2 a3 x4 _ _ _ _ _ _ h hR (lv_sub hl [2, 3, 4, 5, 6] rfl)
                              · replace h := rz_t c_108 h
                                refine lv_aload_n hx hb dL_law_286 rfl (lv_at hl 5 rfl) ?_
                                refine lv_iconst (v := 0) hx hb dL_law_287 (by decide) ?_
                                obtain ⟨c_109, h⟩ := rz_chk h
                                obtain ⟨c_110, h⟩ := rz_chk h
                                refine rg_lald hx hb hK hR c_109 c_110 dL_law_288 ?_
                                refine lv_iload hx hb dL_law_289 (lv_at hl 0 rfl) ?_
                                refine lv_i2l hx hb dL_law_291 rfl ?_
                                refine W.lcmp hx hb dL_law_292 ?_
                                refine lv_if_eq (tgt := 298) hx hb dL_law_293 (by decide) (fun c_111 => ?_) (fun c_111 => ?_)
                                · replace h := rz_t c_111 h
                                  exact tL_law_298 F hC hd2 hC2 hX ih a1 a2 a3 x4 _ _ _ _ _ _ h hR (lv_sub hl [2, 3, 4, 5, 6] rfl)
                                · replace h := rz_f c_111 h
                                  refine lv_iconst (v := 0) hx hb dL_law_296 (by decide) ?_
                                  obtain ⟨c_112, h⟩ := rz_chk h
                                  cases h
                                  exact rt_i hx hb hlk hrt (Or.inr (Or.inr rfl)) c_112 hR dL_law_297
                            · replace h := rz_f c_107 h
                              refine lv_iconst (v := 0) hx hb dL_law_279 (by decide) ?_
                              obtain ⟨c_113, h⟩ := rz_chk h
                              cases h
                              exact rt_i hx hb hlk hrt (Or.inr (Or.inr rfl)) c_113 hR dL_law_280
                          · cases ev.symm.trans ee2
                        · rcases h with ⟨v2, ev2, -⟩ | ⟨e2, ee2, h⟩
                          · cases ex.symm.trans ev2
                          · cases ex.symm.trans ee2
                            cases h
                            exact rt_x hlk hex hR g1 g2 g3
                      · cases ev.symm.trans ee2
                    · rcases h with ⟨v2, ev2, -⟩ | ⟨e2, ee2, h⟩
                      · cases ex.symm.trans ev2
                      · cases ex.symm.trans ee2
                        cases h
                        exact rt_x hlk hex hR g1 g2 g3
                  · cases ev.symm.trans ee2
                · rcases h with ⟨v2, ev2, -⟩ | ⟨e2, ee2, h⟩
                  · cases ex.symm.trans ev2
                  · cases ex.symm.trans ee2
                    cases h
                    exact rt_x hlk hex hR g1 g2 g3
              · replace h := rz_f c_89 h
                by_cases c_114 : ((sc (x4).toNatClampNeg) &&& 7) = 5
                · replace h := rz_t c_114 h
                  refine lv_tableIn (off := 262) (tgt := 301) hx hb dL_law_39 (by rw [c_114]; decide) (by rw [c_114]; decide) (by rw [c_114]; decide) (by decide) ?_
                  refine lv_aload_n hx hb dL_law_301 rfl (lv_at hl 1 rfl) ?_
                  refine lv_aload_n hx hb dL_law_302 rfl (lv_at hl 0 rfl) ?_
                  refine lv_iload hx hb dL_law_303 (lv_at hl 4 rfl) ?_
                  refine lv_iconst (v := 1) hx hb dL_law_305 (by decide) ?_
                  refine lv_iadd hx hb dL_law_306 ?_
                  obtain ⟨c_115, h⟩ := rz_chk h
                  refine rl_sld hx hb hX hR c_115 dL_law_307 ?_
                  refine lv_aload_n hx hb dL_law_308 rfl (lv_at hl 3 rfl) ?_
                  obtain ⟨q_119, M_117, h_118, h⟩ := rz_c h
                  refine rc_SW (rest := []) (As := [.ref a1, .int (sc (x4 + 1).toNatClampNeg), .ref a3]) hx hb (hl.1.trans hml.symm) hown hK hR hRm mtL_ways kl_ini mwL_ways (by decide) ⟨by decide, by decide⟩ (by decide) (n := 3) (by decide +kernel) kl_L_59 rfl (by simp [cat_rf, cat_i, cat_a, cat_l, cat_n]) (by have h9 := sL_ways hC2 (some a1) (sc (x4 + 1).toNatClampNeg) (some a3) h_118; rw [hd2] at h9; exact h9) dL_law_309 (fun v1 H locs cells slots ev hR => ?_) (fun x1 q1 ce1 H locs cells slots ex hR g1 g2 g3 => ?_)
                  · rcases h with ⟨v_116, ev2, h⟩ | ⟨e2, ee2, -⟩
                    · cases ev.symm.trans ev2
                      replace h := rz_i h
                      obtain ⟨x_120, rfl, h⟩ := h
                      dsimp only [Option.toList, List.cons_append, List.nil_append]
                      refine lv_istore (lv' := [(5, .int x_120), (0, .ref b0), (1, .ref a1), (2, .ref a2), (3, .ref a3), (4, .int x4)]) hx hb dL_law_312 hl (by decide) rfl (fun ls hl => ?_)
                      refine lv_aload_n hx hb dL_law_314 rfl (lv_at hl 3 rfl) ?_
                      refine lv_aload_n hx hb dL_law_315 rfl (lv_at hl 1 rfl) ?_
                      refine lv_iload hx hb dL_law_316 (lv_at hl 5 rfl) ?_
                      refine lv_iconst (v := 1) hx hb dL_law_318 (by decide) ?_
                      refine lv_iadd hx hb dL_law_319 ?_
                      obtain ⟨c_121, h⟩ := rz_chk h
                      refine rl_sld hx hb hX hR c_121 dL_law_320 ?_
                      obtain ⟨c_122, h⟩ := rz_chk h
                      obtain ⟨q_126, M_124, h_125, h⟩ := rz_c h
                      refine rc_V (rest := []) (As := [.int (sc (x4 + 1).toNatClampNeg)]) hx hb (hl.1.trans hml.symm) hown hK hR hRm mfM_ways kl_L_61 hk_M rfl rfl c_122 (by simp [cat_rf, cat_i, cat_a, cat_l, cat_n]) (hC 105 _ _ _ _ h_125) dL_law_321 (fun v1 H locs cells slots ev hR => ?_) (fun x1 q1 ce1 H locs cells slots ex hR g1 g2 g3 => ?_)
                      · rcases h with ⟨v_123, ev2, h⟩ | ⟨e2, ee2, -⟩
                        · cases ev.symm.trans ev2
                          replace h := rz_i h
                          obtain ⟨x_127, rfl, h⟩ := h
                          dsimp only [Option.toList, List.cons_append, List.nil_append]
                          refine lv_istore (lv' := [(6, .int x_127), (5, .int x_120), (0, .ref b0), (1, .ref a1), (2, .ref a2), (3, .ref a3), (4, .int x4)]) hx hb dL_law_324 hl (by decide) rfl (fun ls hl => ?_)
                          refine lv_aload_n hx hb dL_law_326 rfl (lv_at hl 4 rfl) ?_
                          obtain ⟨c_128, h⟩ := rz_chk h
                          obtain ⟨q_132, M_130, h_131, h⟩ := rz_c h
                          refine rc_V (rest := []) (As := []) hx hb (hl.1.trans hml.symm) hown hK hR hRm mfM_thrown kl_L_49 hk_M rfl rfl c_128 (by simp [cat_rf, cat_i, cat_a, cat_l, cat_n]) (hC 66 _ _ _ _ h_131) dL_law_327 (fun v1 H locs cells slots ev hR => ?_) (fun x1 q1 ce1 H locs cells slots ex hR g1 g2 g3 => ?_)
                          · rcases h with ⟨v_129, ev2, h⟩ | ⟨e2, ee2, -⟩
                            · cases ev.symm.trans ev2
                              replace h := rz_i h
                              obtain ⟨x_133, rfl, h⟩ := h
                              dsimp only [Option.toList, List.cons_append, List.nil_append]
                              refine lv_iload hx hb dL_law_330 (lv_at hl 1 rfl) ?_
                              refine lv_icmp_eq (tgt := 337) hx hb dL_law_332 (by decide) (fun c_134 => ?_) (fun c_134 => ?_)
                              · replace h := rz_t c_134 h
                                refine lv_iload hx hb dL_law_337 (lv_at hl 1 rfl) ?_
                                refine lv_if_ne (tgt := 354) hx hb dL_law_339 (by decide) (fun c_135 => ?_) (fun c_135 => ?_)
                                · replace h := rz_f c_135 h
                                  exact tL_law_354 F hC hd2 hC2 hX ih a1 a2 a3 x4 _ _ _ _ _ _ h hR (lv_sub hl [2, 3, 4, 5, 6] rfl)
                                · replace h := rz_t c_135 h
                                  refine lv_aload_n hx hb dL_law_342 rfl (lv_at hl 5 rfl) ?_
                                  refine lv_iconst (v := 0) hx hb dL_law_343 (by decide) ?_
                                  obtain ⟨c_136, h⟩ := rz_chk h
                                  obtain ⟨c_137, h⟩ := rz_chk h
                                  refine rg_lald hx hb hK hR c_136 c_137 dL_law_344 ?_
                                  refine lv_iload hx hb dL_law_345 (lv_at hl 0 rfl) ?_
                                  refine lv_i2l hx hb dL_law_347 rfl ?_
                                  refine W.lcmp hx hb dL_law_348 ?_
                                  refine lv_if_eq (tgt := 354) hx hb dL_law_349 (by decide) (fun c_138 => ?_) (fun c_138 => ?_)
                                  · replace h := rz_t c_138 h
                                    exact tL_law_354 F hC hd2 hC2 hX ih a1 a2 a3 x4 _ _ _ _ _ _ h hR (lv_sub hl [2, 3, 4, 5, 6] rfl)
                                  · replace h := rz_f c_138 h
                                    refine lv_iconst (v := 0) hx hb dL_law_352 (by decide) ?_
                                    obtain ⟨c_139, h⟩ := rz_chk h
                                    cases h
                                    exact rt_i hx hb hlk hrt (Or.inr (Or.inr rfl)) c_139 hR dL_law_353
                              · replace h := rz_f c_134 h
                                refine lv_iconst (v := 0) hx hb dL_law_335 (by decide) ?_
                                obtain ⟨c_140, h⟩ := rz_chk h
                                cases h
                                exact rt_i hx hb hlk hrt (Or.inr (Or.inr rfl)) c_140 hR dL_law_336
                            · cases ev.symm.trans ee2
                          · rcases h with ⟨v2, ev2, -⟩ | ⟨e2, ee2, h⟩
                            · cases ex.symm.trans ev2
                            · cases ex.symm.trans ee2
                              cases h
                              exact rt_x hlk hex hR g1 g2 g3
                        · cases ev.symm.trans ee2
                      · rcases h with ⟨v2, ev2, -⟩ | ⟨e2, ee2, h⟩
                        · cases ex.symm.trans ev2
                        · cases ex.symm.trans ee2
                          cases h
                          exact rt_x hlk hex hR g1 g2 g3
                    · cases ev.symm.trans ee2
                  · rcases h with ⟨v2, ev2, -⟩ | ⟨e2, ee2, h⟩
                    · cases ex.symm.trans ev2
                    · cases ex.symm.trans ee2
                      cases h
                      exact rt_x hlk hex hR g1 g2 g3
                · replace h := rz_f c_114 h
                  by_cases c_141 : ((sc (x4).toNatClampNeg) &&& 7) = 6
                  · replace h := rz_t c_141 h
                    refine lv_tableIn (off := 318) (tgt := 357) hx hb dL_law_39 (by rw [c_141]; decide) (by rw [c_141]; decide) (by rw [c_141]; decide) (by decide) ?_
                    refine lv_aload_n hx hb dL_law_357 rfl (lv_at hl 1 rfl) ?_
                    obtain ⟨c_142, h⟩ := rz_chk h
                    obtain ⟨q_146, M_144, h_145, h⟩ := rz_c h
                    refine rc_V (rest := []) (As := []) hx hb (hl.1.trans hml.symm) hown hK hR hRm mfH_length kl_L_62 hk_H rfl rfl c_142 (by simp [cat_rf, cat_i, cat_a, cat_l, cat_n]) (hC 9 _ _ _ _ h_145) dL_law_358 (fun v1 H locs cells slots ev hR => ?_) (fun x1 q1 ce1 H locs cells slots ex hR g1 g2 g3 => ?_)
                    · rcases h with ⟨v_143, ev2, h⟩ | ⟨e2, ee2, -⟩
                      · cases ev.symm.trans ev2
                        replace h := rz_i h
                        obtain ⟨x_147, rfl, h⟩ := h
                        dsimp only [Option.toList, List.cons_append, List.nil_append]
                        refine lv_aload_n hx hb dL_law_361 rfl (lv_at hl 2 rfl) ?_
                        obtain ⟨c_148, h⟩ := rz_chk h
                        obtain ⟨q_152, M_150, h_151, h⟩ := rz_c h
                        refine rc_V (rest := [.int x_147]) (As := []) hx hb (hl.1.trans hml.symm) hown hK hR hRm mfM_length kl_L_65 hk_M rfl rfl c_148 (by simp [cat_rf, cat_i, cat_a, cat_l, cat_n]) (hC 69 _ _ _ _ h_151) dL_law_362 (fun v1 H locs cells slots ev hR => ?_) (fun x1 q1 ce1 H locs cells slots ex hR g1 g2 g3 => ?_)
                        · rcases h with ⟨v_149, ev2, h⟩ | ⟨e2, ee2, -⟩
                          · cases ev.symm.trans ev2
                            replace h := rz_i h
                            obtain ⟨x_153, rfl, h⟩ := h
                            dsimp only [Option.toList, List.cons_append, List.nil_append]
                            refine lv_icmp_eq (tgt := 370) hx hb dL_law_365 (by decide) (fun c_154 => ?_) (fun c_154 => ?_)
                            · replace h := rz_t c_154 h
                              exact tL_law_370 F hC hd2 hC2 hX ih a1 a2 a3 x4 _ _ _ _ _ _ h hR (lv_sub hl [0, 1, 2, 3, 4] rfl)
                            · replace h := rz_f c_154 h
                              refine lv_iconst (v := 0) hx hb dL_law_368 (by decide) ?_
                              obtain ⟨c_155, h⟩ := rz_chk h
                              cases h
                              exact rt_i hx hb hlk hrt (Or.inr (Or.inr rfl)) c_155 hR dL_law_369
                          · cases ev.symm.trans ee2
                        · rcases h with ⟨v2, ev2, -⟩ | ⟨e2, ee2, h⟩
                          · cases ex.symm.trans ev2
                          · cases ex.symm.trans ee2
                            cases h
                            exact rt_x hlk hex hR g1 g2 g3
                      · cases ev.symm.trans ee2
                    · rcases h with ⟨v2, ev2, -⟩ | ⟨e2, ee2, h⟩
                      · cases ex.symm.trans ev2
                      · cases ex.symm.trans ee2
                        cases h
                        exact rt_x hlk hex hR g1 g2 g3
                  · replace h := rz_f c_141 h
                    have zc_4 := lv_neT c_4 (k := 0) (a := 0) (by decide)
                    have zc_23 := lv_neT c_23 (k := 1) (a := 1) (by decide)
                    have zc_38 := lv_neT c_38 (k := 2) (a := 2) (by decide)
                    have zc_63 := lv_neT c_63 (k := 3) (a := 3) (by decide)
                    have zc_89 := lv_neT c_89 (k := 4) (a := 4) (by decide)
                    have zc_114 := lv_neT c_114 (k := 5) (a := 5) (by decide)
                    have zc_141 := lv_neT c_141 (k := 6) (a := 6) (by decide)
                    refine lv_tableOut (tgt := 370) hx hb dL_law_39 (by omega) (by decide) ?_
                    exact tL_law_370 F hC hd2 hC2 hX ih a1 a2 a3 x4 _ _ _ _ _ _ h hR (lv_sub hl [0, 1, 2, 3, 4] rfl)
def fL_law_0 (n d : Nat) (C : Cx) (C2 : Cx) (sc : Nat → Int32) (N : Nat) (M : Mem) : Rz := if mS M + 1 ≤ mC M 0 then (if mU M + 6 ≤ SLm then (rzM (newC M 1 0 6) fun M_5 => (rzC (C 0 [.ref (mS M)] M_5) fun v_8 M_9 => (rzV v_8 (if mS M_9 + 1 ≤ mC M_9 0 then (if mU M_9 + 41 ≤ SLm then (rzM (newC M_9 5 0 41) fun M_16 => (rzC (C 65 [.ref (mS M_9)] M_16) fun v_19 M_20 => (rzV v_19 (if ¬ (1 : Int32) < 0 then (if (1 : Int32).toNatClampNeg ≤ 1000 then (if mS M_20 + 1 ≤ mC M_20 0 then (if mU M_20 + (1 : Int32).toNatClampNeg ≤ SLm then (rzM (newC M_20 24 ((1 : Int32).toNatClampNeg) ((1 : Int32).toNatClampNeg)) fun M_27 => (fL_law_23 n d C C2 sc N n (mS M) (mS M_9) (mS M_20) 0 M_27)) else none) else none) else none) else none)))) else none) else none)))) else none) else none
set_option maxRecDepth 100000 in
set_option maxHeartbeats 4000000 in
theorem tL_law_0 {n : Nat} (F : FX p s m meth c G R M0 d "HeadCountLaw" bL_law 7 (some .boolean)) (hC : CBs l G d C) {C2 : Cx} {sc : Nat → Int32} {N b0 : Nat} (hd2 : d - 1 + 1 = d) (hC2 : CBs l G (d - 1) C2) (hX : Scr G s b0 N sc) : ∀ (M : Mem) (H : Heap) (locs : List Loc) (cells slots : Nat) (ls : Array Slot), fL_law_0 n d C C2 sc N M = some (r, M') → RL G M0 M H locs cells slots → lv_has ls 7 [(0, .ref b0)] → W p l e R s m args below meth c H locs cells slots (CQ G below s M0 r M') (F0 m 0 ls []) := by
  obtain ⟨hx, hb, hml, hown, hrt, hlk, hex, hK, hRm⟩ := id F
  intro M H locs cells slots ls h hR hl
  unfold fL_law_0 at h
  obtain ⟨c_1, h⟩ := rz_chk h
  obtain ⟨c_2, h⟩ := rz_chk h
  obtain ⟨M_5, q_6, h⟩ := rz_m h
  have hR0 := hR
  refine rg_new hx hb hown hK hR hRm hk_H kc_L_8 kn_H ki_H c_1 c_2 dL_law_0 (fun H hR => ?_)
  rw [← q_6] at hR
  have c_7 : mK M_5 (mS M) = 1 := by rw [q_6, mK_newC, va_up_self]
  refine lv_dup hx hb dL_law_3 rfl ?_
  obtain ⟨q_11, M_9, h_10, h⟩ := rz_c h
  refine rc_I (rest := [.ref (mS M)]) (As := []) hx hb (hl.1.trans hml.symm) hown hK hR hRm mfH_init kl_L_28 rfl (by simp [cat_rf, cat_i, cat_a, cat_l, cat_n]) (hC 0 _ _ _ _ h_10) dL_law_4 (fun v1 H locs cells slots ev hR => ?_) (fun x1 q1 ce1 H locs cells slots ex hR g1 g2 g3 => ?_)
  · rcases h with ⟨v_8, ev2, h⟩ | ⟨e2, ee2, -⟩
    · cases ev.symm.trans ev2
      replace h := rz_v h
      obtain ⟨rfl, h⟩ := h
      dsimp only [Option.toList, List.cons_append, List.nil_append]
      refine lv_astore_n (lv' := [(1, .ref (mS M)), (0, .ref b0)]) hx hb dL_law_7 rfl hl (by decide) rfl (fun ls hl => ?_)
      obtain ⟨c_12, h⟩ := rz_chk h
      obtain ⟨c_13, h⟩ := rz_chk h
      obtain ⟨M_16, q_17, h⟩ := rz_m h
      have hR0 := hR
      refine rg_new hx hb hown hK hR hRm hk_M kc_L_29 kn_M ki_M c_12 c_13 dL_law_8 (fun H hR => ?_)
      rw [← q_17] at hR
      have c_18 : mK M_16 (mS M_9) = 5 := by rw [q_17, mK_newC, va_up_self]
      refine lv_dup hx hb dL_law_11 rfl ?_
      obtain ⟨q_22, M_20, h_21, h⟩ := rz_c h
      refine rc_I (rest := [.ref (mS M_9)]) (As := []) hx hb (hl.1.trans hml.symm) hown hK hR hRm mfM_init kl_L_31 rfl (by simp [cat_rf, cat_i, cat_a, cat_l, cat_n]) (hC 65 _ _ _ _ h_21) dL_law_12 (fun v1 H locs cells slots ev hR => ?_) (fun x1 q1 ce1 H locs cells slots ex hR g1 g2 g3 => ?_)
      · rcases h with ⟨v_19, ev2, h⟩ | ⟨e2, ee2, -⟩
        · cases ev.symm.trans ev2
          replace h := rz_v h
          obtain ⟨rfl, h⟩ := h
          dsimp only [Option.toList, List.cons_append, List.nil_append]
          refine lv_astore_n (lv' := [(2, .ref (mS M_9)), (1, .ref (mS M)), (0, .ref b0)]) hx hb dL_law_15 rfl hl (by decide) rfl (fun ls hl => ?_)
          refine lv_iconst (v := 1) hx hb dL_law_16 (by decide) ?_
          obtain ⟨c_23, h⟩ := rz_chk h
          obtain ⟨c_24, h⟩ := rz_chk h
          obtain ⟨c_25, h⟩ := rz_chk h
          obtain ⟨c_26, h⟩ := rz_chk h
          obtain ⟨M_27, q_28, h⟩ := rz_m h
          have hR0 := hR
          refine rg_newa (kd := 24) (atype := .long) (ty := .long) hx hb hK hR hRm rfl (by decide) ka_long c_23 c_24 c_25 c_26 dL_law_17 (fun H hR => ?_)
          rw [← q_28] at hR
          have c_29 : mK M_27 (mS M_20) = 24 := by rw [q_28, mK_newC, va_up_self]
          refine lv_astore_n (lv' := [(3, .ref (mS M_20)), (2, .ref (mS M_9)), (1, .ref (mS M)), (0, .ref b0)]) hx hb dL_law_19 rfl hl (by decide) rfl (fun ls hl => ?_)
          refine lv_iconst (v := 0) hx hb dL_law_20 (by decide) ?_
          refine lv_istore (lv' := [(4, .int 0), (3, .ref (mS M_20)), (2, .ref (mS M_9)), (1, .ref (mS M)), (0, .ref b0)]) hx hb dL_law_21 hl (by decide) rfl (fun ls hl => ?_)
          exact tL_law_23 F hC hd2 hC2 hX n (mS M) (mS M_9) (mS M_20) 0 _ _ _ _ _ _ h hR (lv_sub hl [4, 3, 2, 1, 0] rfl)
        · cases ev.symm.trans ee2
      · rcases h with ⟨v2, ev2, -⟩ | ⟨e2, ee2, h⟩
        · cases ex.symm.trans ev2
        · cases ex.symm.trans ee2
          cases h
          exact rt_x hlk hex hR g1 g2 g3
    · cases ev.symm.trans ee2
  · rcases h with ⟨v2, ev2, -⟩ | ⟨e2, ee2, h⟩
    · cases ex.symm.trans ev2
    · cases ex.symm.trans ee2
      cases h
      exact rt_x hlk hex hR g1 g2 g3
end
