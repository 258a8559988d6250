theorem dX11_gcdLehmer_249 : decode cX11_gcdLehmer 249 = .ok (.lload 19, 2) := by decide +kernel
theorem dX11_gcdLehmer_251 : decode cX11_gcdLehmer 251 = .ok (.lstore 7, 2) := by decide +kernel
theorem dX11_gcdLehmer_253 : decode cX11_gcdLehmer 253 = .ok (.goto (-111), 3) := by decide +kernel
theorem dX11_gcdLehmer_256 : decode cX11_gcdLehmer 256 = .ok (.lload 11, 2) := by decide +kernel
theorem dX11_gcdLehmer_258 : decode cX11_gcdLehmer 258 = .ok (.lconst 0, 1) := by decide +kernel
theorem dX11_gcdLehmer_259 : decode cX11_gcdLehmer 259 = .ok (.lcmp, 1) := by decide +kernel
theorem dX11_gcdLehmer_260 : decode cX11_gcdLehmer 260 = .ok (.ifCond .ne 10, 3) := by decide +kernel
theorem dX11_gcdLehmer_263 : decode cX11_gcdLehmer 263 = .ok (.aload_n 0, 1) := by decide +kernel
theorem dX11_gcdLehmer_264 : decode cX11_gcdLehmer 264 = .ok (.invokevirtual 133, 3) := by decide +kernel
theorem dX11_gcdLehmer_267 : decode cX11_gcdLehmer 267 = .ok (.goto 39, 3) := by decide +kernel
theorem dX11_gcdLehmer_270 : decode cX11_gcdLehmer 270 = .ok (.aload_n 0, 1) := by decide +kernel
theorem dX11_gcdLehmer_271 : decode cX11_gcdLehmer 271 = .ok (.bipush 28, 2) := by decide +kernel
theorem dX11_gcdLehmer_273 : decode cX11_gcdLehmer 273 = .ok (.lload 9, 2) := by decide +kernel
theorem dX11_gcdLehmer_275 : decode cX11_gcdLehmer 275 = .ok (.lload 11, 2) := by decide +kernel
theorem dX11_gcdLehmer_277 : decode cX11_gcdLehmer 277 = .ok (.invokevirtual 136, 3) := by decide +kernel
theorem dX11_gcdLehmer_280 : decode cX11_gcdLehmer 280 = .ok (.aload_n 0, 1) := by decide +kernel
theorem dX11_gcdLehmer_281 : decode cX11_gcdLehmer 281 = .ok (.bipush 29, 2) := by decide +kernel
theorem dX11_gcdLehmer_283 : decode cX11_gcdLehmer 283 = .ok (.lload 13, 2) := by decide +kernel
theorem dX11_gcdLehmer_285 : decode cX11_gcdLehmer 285 = .ok (.lload 15, 2) := by decide +kernel
theorem dX11_gcdLehmer_287 : decode cX11_gcdLehmer 287 = .ok (.invokevirtual 136, 3) := by decide +kernel
theorem dX11_gcdLehmer_290 : decode cX11_gcdLehmer 290 = .ok (.aload_n 0, 1) := by decide +kernel
theorem dX11_gcdLehmer_291 : decode cX11_gcdLehmer 291 = .ok (.bipush 20, 2) := by decide +kernel
theorem dX11_gcdLehmer_293 : decode cX11_gcdLehmer 293 = .ok (.bipush 28, 2) := by decide +kernel
theorem dX11_gcdLehmer_295 : decode cX11_gcdLehmer 295 = .ok (.invokevirtual 45, 3) := by decide +kernel
theorem dX11_gcdLehmer_298 : decode cX11_gcdLehmer 298 = .ok (.aload_n 0, 1) := by decide +kernel
theorem dX11_gcdLehmer_299 : decode cX11_gcdLehmer 299 = .ok (.bipush 21, 2) := by decide +kernel
theorem dX11_gcdLehmer_301 : decode cX11_gcdLehmer 301 = .ok (.bipush 29, 2) := by decide +kernel
theorem dX11_gcdLehmer_303 : decode cX11_gcdLehmer 303 = .ok (.invokevirtual 45, 3) := by decide +kernel
theorem dX11_gcdLehmer_306 : decode cX11_gcdLehmer 306 = .ok (.goto (-221), 3) := by decide +kernel
theorem dX11_gcdLehmer_309 : decode cX11_gcdLehmer 309 = .ok (.aload_n 0, 1) := by decide +kernel
theorem dX11_gcdLehmer_310 : decode cX11_gcdLehmer 310 = .ok (.getfield 13, 3) := by decide +kernel
theorem dX11_gcdLehmer_313 : decode cX11_gcdLehmer 313 = .ok (.bipush 21, 2) := by decide +kernel
theorem dX11_gcdLehmer_315 : decode cX11_gcdLehmer 315 = .ok (.iaload, 1) := by decide +kernel
theorem dX11_gcdLehmer_316 : decode cX11_gcdLehmer 316 = .ok (.ifCond .le 18, 3) := by decide +kernel
theorem dX11_gcdLehmer_319 : decode cX11_gcdLehmer 319 = .ok (.aload_n 0, 1) := by decide +kernel
theorem dX11_gcdLehmer_320 : decode cX11_gcdLehmer 320 = .ok (.getfield 13, 3) := by decide +kernel
theorem dX11_gcdLehmer_323 : decode cX11_gcdLehmer 323 = .ok (.bipush 20, 2) := by decide +kernel
theorem dX11_gcdLehmer_325 : decode cX11_gcdLehmer 325 = .ok (.iaload, 1) := by decide +kernel
theorem dX11_gcdLehmer_326 : decode cX11_gcdLehmer 326 = .ok (.iconst 2, 1) := by decide +kernel
theorem dX11_gcdLehmer_327 : decode cX11_gcdLehmer 327 = .ok (.if_icmp .le 7, 3) := by decide +kernel
theorem dX11_gcdLehmer_330 : decode cX11_gcdLehmer 330 = .ok (.aload_n 0, 1) := by decide +kernel
theorem dX11_gcdLehmer_331 : decode cX11_gcdLehmer 331 = .ok (.invokevirtual 133, 3) := by decide +kernel
theorem dX11_gcdLehmer_334 : decode cX11_gcdLehmer 334 = .ok (.aload_n 0, 1) := by decide +kernel
theorem dX11_gcdLehmer_335 : decode cX11_gcdLehmer 335 = .ok (.invokevirtual 110, 3) := by decide +kernel
theorem dX11_gcdLehmer_338 : decode cX11_gcdLehmer 338 = .ok (.aload_n 0, 1) := by decide +kernel
theorem dX11_gcdLehmer_339 : decode cX11_gcdLehmer 339 = .ok (.iload_n 1, 1) := by decide +kernel
theorem dX11_gcdLehmer_340 : decode cX11_gcdLehmer 340 = .ok (.bipush 20, 2) := by decide +kernel
theorem dX11_gcdLehmer_342 : decode cX11_gcdLehmer 342 = .ok (.invokevirtual 45, 3) := by decide +kernel
theorem dX11_gcdLehmer_345 : decode cX11_gcdLehmer 345 = .ok (.iconst 0, 1) := by decide +kernel
theorem dX11_gcdLehmer_346 : decode cX11_gcdLehmer 346 = .ok (.ireturn, 1) := by decide +kernel
theorem dX11_lastSteps_0 : decode cX11_lastSteps 0 = .ok (.aload_n 0, 1) := by decide +kernel
theorem dX11_lastSteps_1 : decode cX11_lastSteps 1 = .ok (.iconst 0, 1) := by decide +kernel
theorem dX11_lastSteps_2 : decode cX11_lastSteps 2 = .ok (.putfield 33, 3) := by decide +kernel
theorem dX11_lastSteps_5 : decode cX11_lastSteps 5 = .ok (.aload_n 0, 1) := by decide +kernel
theorem dX11_lastSteps_6 : decode cX11_lastSteps 6 = .ok (.getfield 123, 3) := by decide +kernel
theorem dX11_lastSteps_9 : decode cX11_lastSteps 9 = .ok (.ireturn, 1) := by decide +kernel
theorem dX11_factors_0 : decode cX11_factors 0 = .ok (.aload_n 0, 1) := by decide +kernel
theorem dX11_factors_1 : decode cX11_factors 1 = .ok (.bipush 20, 2) := by decide +kernel
theorem dX11_factors_3 : decode cX11_factors 3 = .ok (.iload_n 1, 1) := by decide +kernel
theorem dX11_factors_4 : decode cX11_factors 4 = .ok (.invokevirtual 107, 3) := by decide +kernel
theorem dX11_factors_7 : decode cX11_factors 7 = .ok (.aload_n 0, 1) := by decide +kernel
theorem dX11_factors_8 : decode cX11_factors 8 = .ok (.bipush 21, 2) := by decide +kernel
theorem dX11_factors_10 : decode cX11_factors 10 = .ok (.iload_n 2, 1) := by decide +kernel
theorem dX11_factors_11 : decode cX11_factors 11 = .ok (.invokevirtual 107, 3) := by decide +kernel
theorem dX11_factors_14 : decode cX11_factors 14 = .ok (.aload_n 0, 1) := by decide +kernel
theorem dX11_factors_15 : decode cX11_factors 15 = .ok (.bipush 22, 2) := by decide +kernel
theorem dX11_factors_17 : decode cX11_factors 17 = .ok (.iconst 1, 1) := by decide +kernel
theorem dX11_factors_18 : decode cX11_factors 18 = .ok (.invokevirtual 56, 3) := by decide +kernel
theorem dX11_factors_21 : decode cX11_factors 21 = .ok (.aload_n 0, 1) := by decide +kernel
theorem dX11_factors_22 : decode cX11_factors 22 = .ok (.bipush 24, 2) := by decide +kernel
theorem dX11_factors_24 : decode cX11_factors 24 = .ok (.iconst 0, 1) := by decide +kernel
theorem dX11_factors_25 : decode cX11_factors 25 = .ok (.invokevirtual 56, 3) := by decide +kernel
theorem dX11_factors_28 : decode cX11_factors 28 = .ok (.aload_n 0, 1) := by decide +kernel
theorem dX11_factors_29 : decode cX11_factors 29 = .ok (.bipush 23, 2) := by decide +kernel
theorem dX11_factors_31 : decode cX11_factors 31 = .ok (.iconst 0, 1) := by decide +kernel
theorem dX11_factors_32 : decode cX11_factors 32 = .ok (.invokevirtual 56, 3) := by decide +kernel
theorem dX11_factors_35 : decode cX11_factors 35 = .ok (.aload_n 0, 1) := by decide +kernel
theorem dX11_factors_36 : decode cX11_factors 36 = .ok (.bipush 30, 2) := by decide +kernel
theorem dX11_factors_38 : decode cX11_factors 38 = .ok (.iconst 1, 1) := by decide +kernel
theorem dX11_factors_39 : decode cX11_factors 39 = .ok (.invokevirtual 56, 3) := by decide +kernel
theorem dX11_factors_42 : decode cX11_factors 42 = .ok (.aload_n 0, 1) := by decide +kernel
theorem dX11_factors_43 : decode cX11_factors 43 = .ok (.getfield 13, 3) := by decide +kernel
theorem dX11_factors_46 : decode cX11_factors 46 = .ok (.bipush 21, 2) := by decide +kernel
theorem dX11_factors_48 : decode cX11_factors 48 = .ok (.iaload, 1) := by decide +kernel
theorem dX11_factors_49 : decode cX11_factors 49 = .ok (.ifCond .le 108, 3) := by decide +kernel
theorem dX11_factors_52 : decode cX11_factors 52 = .ok (.aload_n 0, 1) := by decide +kernel
theorem dX11_factors_53 : decode cX11_factors 53 = .ok (.bipush 17, 2) := by decide +kernel
theorem dX11_factors_55 : decode cX11_factors 55 = .ok (.bipush 18, 2) := by decide +kernel
theorem dX11_factors_57 : decode cX11_factors 57 = .ok (.bipush 20, 2) := by decide +kernel
theorem dX11_factors_59 : decode cX11_factors 59 = .ok (.bipush 21, 2) := by decide +kernel
theorem dX11_factors_61 : decode cX11_factors 61 = .ok (.invokevirtual 68, 3) := by decide +kernel
theorem dX11_factors_64 : decode cX11_factors 64 = .ok (.aload_n 0, 1) := by decide +kernel
theorem dX11_factors_65 : decode cX11_factors 65 = .ok (.bipush 20, 2) := by decide +kernel
theorem dX11_factors_67 : decode cX11_factors 67 = .ok (.bipush 21, 2) := by decide +kernel
theorem dX11_factors_69 : decode cX11_factors 69 = .ok (.invokevirtual 45, 3) := by decide +kernel
theorem dX11_factors_72 : decode cX11_factors 72 = .ok (.aload_n 0, 1) := by decide +kernel
theorem dX11_factors_73 : decode cX11_factors 73 = .ok (.bipush 21, 2) := by decide +kernel
theorem dX11_factors_75 : decode cX11_factors 75 = .ok (.bipush 18, 2) := by decide +kernel
theorem dX11_factors_77 : decode cX11_factors 77 = .ok (.invokevirtual 45, 3) := by decide +kernel
theorem dX11_factors_80 : decode cX11_factors 80 = .ok (.aload_n 0, 1) := by decide +kernel
theorem dX11_factors_81 : decode cX11_factors 81 = .ok (.bipush 25, 2) := by decide +kernel
theorem dX11_factors_83 : decode cX11_factors 83 = .ok (.bipush 17, 2) := by decide +kernel
theorem dX11_factors_85 : decode cX11_factors 85 = .ok (.bipush 24, 2) := by decide +kernel
theorem dX11_factors_87 : decode cX11_factors 87 = .ok (.invokevirtual 84, 3) := by decide +kernel
theorem dX11_factors_90 : decode cX11_factors 90 = .ok (.aload_n 0, 1) := by decide +kernel
theorem dX11_factors_91 : decode cX11_factors 91 = .ok (.bipush 19, 2) := by decide +kernel
theorem dX11_factors_93 : decode cX11_factors 93 = .ok (.bipush 22, 2) := by decide +kernel
theorem dX11_factors_95 : decode cX11_factors 95 = .ok (.bipush 25, 2) := by decide +kernel
theorem dX11_factors_97 : decode cX11_factors 97 = .ok (.iconst (-1), 1) := by decide +kernel
theorem dX11_factors_98 : decode cX11_factors 98 = .ok (.invokevirtual 71, 3) := by decide +kernel
theorem dX11_factors_101 : decode cX11_factors 101 = .ok (.aload_n 0, 1) := by decide +kernel
theorem dX11_factors_102 : decode cX11_factors 102 = .ok (.bipush 22, 2) := by decide +kernel
theorem dX11_factors_104 : decode cX11_factors 104 = .ok (.bipush 24, 2) := by decide +kernel
theorem dX11_factors_106 : decode cX11_factors 106 = .ok (.invokevirtual 45, 3) := by decide +kernel
theorem dX11_factors_109 : decode cX11_factors 109 = .ok (.aload_n 0, 1) := by decide +kernel
theorem dX11_factors_110 : decode cX11_factors 110 = .ok (.bipush 24, 2) := by decide +kernel
theorem dX11_factors_112 : decode cX11_factors 112 = .ok (.bipush 19, 2) := by decide +kernel
theorem dX11_factors_114 : decode cX11_factors 114 = .ok (.invokevirtual 45, 3) := by decide +kernel
theorem dX11_factors_117 : decode cX11_factors 117 = .ok (.aload_n 0, 1) := by decide +kernel
theorem dX11_factors_118 : decode cX11_factors 118 = .ok (.bipush 25, 2) := by decide +kernel
theorem dX11_factors_120 : decode cX11_factors 120 = .ok (.bipush 17, 2) := by decide +kernel
theorem dX11_factors_122 : decode cX11_factors 122 = .ok (.bipush 30, 2) := by decide +kernel
theorem dX11_factors_124 : decode cX11_factors 124 = .ok (.invokevirtual 84, 3) := by decide +kernel
theorem dX11_factors_127 : decode cX11_factors 127 = .ok (.aload_n 0, 1) := by decide +kernel
theorem dX11_factors_128 : decode cX11_factors 128 = .ok (.bipush 19, 2) := by decide +kernel
theorem dX11_factors_130 : decode cX11_factors 130 = .ok (.bipush 23, 2) := by decide +kernel
theorem dX11_factors_132 : decode cX11_factors 132 = .ok (.bipush 25, 2) := by decide +kernel
theorem dX11_factors_134 : decode cX11_factors 134 = .ok (.iconst (-1), 1) := by decide +kernel
theorem dX11_factors_135 : decode cX11_factors 135 = .ok (.invokevirtual 71, 3) := by decide +kernel
theorem dX11_factors_138 : decode cX11_factors 138 = .ok (.aload_n 0, 1) := by decide +kernel
theorem dX11_factors_139 : decode cX11_factors 139 = .ok (.bipush 23, 2) := by decide +kernel
theorem dX11_factors_141 : decode cX11_factors 141 = .ok (.bipush 30, 2) := by decide +kernel
theorem dX11_factors_143 : decode cX11_factors 143 = .ok (.invokevirtual 45, 3) := by decide +kernel
theorem dX11_factors_146 : decode cX11_factors 146 = .ok (.aload_n 0, 1) := by decide +kernel
theorem dX11_factors_147 : decode cX11_factors 147 = .ok (.bipush 30, 2) := by decide +kernel
theorem dX11_factors_149 : decode cX11_factors 149 = .ok (.bipush 19, 2) := by decide +kernel
theorem dX11_factors_151 : decode cX11_factors 151 = .ok (.invokevirtual 45, 3) := by decide +kernel
theorem dX11_factors_154 : decode cX11_factors 154 = .ok (.goto (-112), 3) := by decide +kernel
theorem dX11_factors_157 : decode cX11_factors 157 = .ok (.aload_n 0, 1) := by decide +kernel
theorem dX11_factors_158 : decode cX11_factors 158 = .ok (.getfield 16, 3) := by decide +kernel
theorem dX11_factors_161 : decode cX11_factors 161 = .ok (.iload_n 1, 1) := by decide +kernel
theorem dX11_factors_162 : decode cX11_factors 162 = .ok (.iaload, 1) := by decide +kernel
theorem dX11_factors_163 : decode cX11_factors 163 = .ok (.ifCond .ge 18, 3) := by decide +kernel
theorem dX11_factors_166 : decode cX11_factors 166 = .ok (.aload_n 0, 1) := by decide +kernel
theorem dX11_factors_167 : decode cX11_factors 167 = .ok (.getfield 16, 3) := by decide +kernel
theorem dX11_factors_170 : decode cX11_factors 170 = .ok (.bipush 22, 2) := by decide +kernel
theorem dX11_factors_172 : decode cX11_factors 172 = .ok (.aload_n 0, 1) := by decide +kernel
theorem dX11_factors_173 : decode cX11_factors 173 = .ok (.getfield 16, 3) := by decide +kernel
theorem dX11_factors_176 : decode cX11_factors 176 = .ok (.bipush 22, 2) := by decide +kernel
theorem dX11_factors_178 : decode cX11_factors 178 = .ok (.iaload, 1) := by decide +kernel
theorem dX11_factors_179 : decode cX11_factors 179 = .ok (.ineg, 1) := by decide +kernel
theorem dX11_factors_180 : decode cX11_factors 180 = .ok (.iastore, 1) := by decide +kernel
theorem dX11_factors_181 : decode cX11_factors 181 = .ok (.aload_n 0, 1) := by decide +kernel
theorem dX11_factors_182 : decode cX11_factors 182 = .ok (.getfield 16, 3) := by decide +kernel
theorem dX11_factors_185 : decode cX11_factors 185 = .ok (.iload_n 2, 1) := by decide +kernel
theorem dX11_factors_186 : decode cX11_factors 186 = .ok (.iaload, 1) := by decide +kernel
theorem dX11_factors_187 : decode cX11_factors 187 = .ok (.ifCond .ge 18, 3) := by decide +kernel
theorem dX11_factors_190 : decode cX11_factors 190 = .ok (.aload_n 0, 1) := by decide +kernel
theorem dX11_factors_191 : decode cX11_factors 191 = .ok (.getfield 16, 3) := by decide +kernel
theorem dX11_factors_194 : decode cX11_factors 194 = .ok (.bipush 23, 2) := by decide +kernel
theorem dX11_factors_196 : decode cX11_factors 196 = .ok (.aload_n 0, 1) := by decide +kernel
theorem dX11_factors_197 : decode cX11_factors 197 = .ok (.getfield 16, 3) := by decide +kernel
theorem dX11_factors_200 : decode cX11_factors 200 = .ok (.bipush 23, 2) := by decide +kernel
theorem dX11_factors_202 : decode cX11_factors 202 = .ok (.iaload, 1) := by decide +kernel
theorem dX11_factors_203 : decode cX11_factors 203 = .ok (.ineg, 1) := by decide +kernel
theorem dX11_factors_204 : decode cX11_factors 204 = .ok (.iastore, 1) := by decide +kernel
theorem dX11_factors_205 : decode cX11_factors 205 = .ok (.return_, 1) := by decide +kernel
theorem dX11_bezout_0 : decode cX11_bezout 0 = .ok (.aload_n 0, 1) := by decide +kernel
theorem dX11_bezout_1 : decode cX11_bezout 1 = .ok (.iconst 0, 1) := by decide +kernel
theorem dX11_bezout_2 : decode cX11_bezout 2 = .ok (.putfield 33, 3) := by decide +kernel
theorem dX11_bezout_5 : decode cX11_bezout 5 = .ok (.aload_n 0, 1) := by decide +kernel
theorem dX11_bezout_6 : decode cX11_bezout 6 = .ok (.iload_n 1, 1) := by decide +kernel
theorem dX11_bezout_7 : decode cX11_bezout 7 = .ok (.invokevirtual 78, 3) := by decide +kernel
theorem dX11_bezout_10 : decode cX11_bezout 10 = .ok (.ifCond .ne 52, 3) := by decide +kernel
theorem dX11_bezout_13 : decode cX11_bezout 13 = .ok (.aload_n 0, 1) := by decide +kernel
theorem dX11_bezout_14 : decode cX11_bezout 14 = .ok (.iload_n 2, 1) := by decide +kernel
theorem dX11_bezout_15 : decode cX11_bezout 15 = .ok (.invokevirtual 78, 3) := by decide +kernel
theorem dX11_bezout_18 : decode cX11_bezout 18 = .ok (.ifCond .ne 44, 3) := by decide +kernel
theorem dX11_bezout_21 : decode cX11_bezout 21 = .ok (.aload_n 0, 1) := by decide +kernel
theorem dX11_bezout_22 : decode cX11_bezout 22 = .ok (.iload_n 3, 1) := by decide +kernel
theorem dX11_bezout_23 : decode cX11_bezout 23 = .ok (.invokevirtual 78, 3) := by decide +kernel
theorem dX11_bezout_26 : decode cX11_bezout 26 = .ok (.ifCond .ne 36, 3) := by decide +kernel
theorem dX11_bezout_29 : decode cX11_bezout 29 = .ok (.aload_n 0, 1) := by decide +kernel
theorem dX11_bezout_30 : decode cX11_bezout 30 = .ok (.iload 4, 2) := by decide +kernel
theorem dX11_bezout_32 : decode cX11_bezout 32 = .ok (.invokevirtual 78, 3) := by decide +kernel
theorem dX11_bezout_35 : decode cX11_bezout 35 = .ok (.ifCond .ne 27, 3) := by decide +kernel
theorem dX11_bezout_38 : decode cX11_bezout 38 = .ok (.aload_n 0, 1) := by decide +kernel
theorem dX11_bezout_39 : decode cX11_bezout 39 = .ok (.iload 5, 2) := by decide +kernel
theorem dX11_bezout_41 : decode cX11_bezout 41 = .ok (.invokevirtual 78, 3) := by decide +kernel
theorem dX11_bezout_44 : decode cX11_bezout 44 = .ok (.ifCond .ne 18, 3) := by decide +kernel
theorem dX11_bezout_47 : decode cX11_bezout 47 = .ok (.iload_n 1, 1) := by decide +kernel
theorem dX11_bezout_48 : decode cX11_bezout 48 = .ok (.iload_n 2, 1) := by decide +kernel
theorem dX11_bezout_49 : decode cX11_bezout 49 = .ok (.if_icmp .eq 13, 3) := by decide +kernel
theorem dX11_bezout_52 : decode cX11_bezout 52 = .ok (.iload_n 1, 1) := by decide +kernel
theorem dX11_bezout_53 : decode cX11_bezout 53 = .ok (.iload_n 3, 1) := by decide +kernel
theorem dX11_bezout_54 : decode cX11_bezout 54 = .ok (.if_icmp .eq 8, 3) := by decide +kernel
theorem dX11_bezout_57 : decode cX11_bezout 57 = .ok (.iload_n 2, 1) := by decide +kernel
theorem dX11_bezout_58 : decode cX11_bezout 58 = .ok (.iload_n 3, 1) := by decide +kernel
theorem dX11_bezout_59 : decode cX11_bezout 59 = .ok (.if_icmp .ne 5, 3) := by decide +kernel
theorem dX11_bezout_62 : decode cX11_bezout 62 = .ok (.iconst 3, 1) := by decide +kernel
theorem dX11_bezout_63 : decode cX11_bezout 63 = .ok (.ireturn, 1) := by decide +kernel
theorem dX11_bezout_64 : decode cX11_bezout 64 = .ok (.aload_n 0, 1) := by decide +kernel
theorem dX11_bezout_65 : decode cX11_bezout 65 = .ok (.iload 4, 2) := by decide +kernel
theorem dX11_bezout_67 : decode cX11_bezout 67 = .ok (.iload 5, 2) := by decide +kernel
theorem dX11_bezout_69 : decode cX11_bezout 69 = .ok (.invokevirtual 140, 3) := by decide +kernel
theorem dX11_bezout_72 : decode cX11_bezout 72 = .ok (.aload_n 0, 1) := by decide +kernel
theorem dX11_bezout_73 : decode cX11_bezout 73 = .ok (.bipush 20, 2) := by decide +kernel
theorem dX11_bezout_75 : decode cX11_bezout 75 = .ok (.invokevirtual 74, 3) := by decide +kernel
theorem dX11_bezout_78 : decode cX11_bezout 78 = .ok (.ifCond .eq 21, 3) := by decide +kernel
theorem dX11_bezout_81 : decode cX11_bezout 81 = .ok (.aload_n 0, 1) := by decide +kernel
theorem dX11_bezout_82 : decode cX11_bezout 82 = .ok (.bipush 22, 2) := by decide +kernel
theorem dX11_bezout_84 : decode cX11_bezout 84 = .ok (.invokevirtual 74, 3) := by decide +kernel
theorem dX11_bezout_87 : decode cX11_bezout 87 = .ok (.ifCond .eq 12, 3) := by decide +kernel
theorem dX11_bezout_90 : decode cX11_bezout 90 = .ok (.aload_n 0, 1) := by decide +kernel
theorem dX11_bezout_91 : decode cX11_bezout 91 = .ok (.bipush 23, 2) := by decide +kernel
theorem dX11_bezout_93 : decode cX11_bezout 93 = .ok (.invokevirtual 74, 3) := by decide +kernel
theorem dX11_bezout_96 : decode cX11_bezout 96 = .ok (.ifCond .ne 5, 3) := by decide +kernel
theorem dX11_bezout_99 : decode cX11_bezout 99 = .ok (.iconst 1, 1) := by decide +kernel
theorem dX11_bezout_100 : decode cX11_bezout 100 = .ok (.ireturn, 1) := by decide +kernel
theorem dX11_bezout_101 : decode cX11_bezout 101 = .ok (.aload_n 0, 1) := by decide +kernel
theorem dX11_bezout_102 : decode cX11_bezout 102 = .ok (.iload_n 1, 1) := by decide +kernel
theorem dX11_bezout_103 : decode cX11_bezout 103 = .ok (.bipush 20, 2) := by decide +kernel
theorem dX11_bezout_105 : decode cX11_bezout 105 = .ok (.invokevirtual 45, 3) := by decide +kernel
theorem dX11_bezout_108 : decode cX11_bezout 108 = .ok (.aload_n 0, 1) := by decide +kernel
theorem dX11_bezout_109 : decode cX11_bezout 109 = .ok (.iload_n 2, 1) := by decide +kernel
theorem dX11_bezout_110 : decode cX11_bezout 110 = .ok (.bipush 22, 2) := by decide +kernel
theorem dX11_bezout_112 : decode cX11_bezout 112 = .ok (.invokevirtual 45, 3) := by decide +kernel
theorem dX11_bezout_115 : decode cX11_bezout 115 = .ok (.aload_n 0, 1) := by decide +kernel
theorem dX11_bezout_116 : decode cX11_bezout 116 = .ok (.iload_n 3, 1) := by decide +kernel
theorem dX11_bezout_117 : decode cX11_bezout 117 = .ok (.bipush 23, 2) := by decide +kernel
theorem dX11_bezout_119 : decode cX11_bezout 119 = .ok (.invokevirtual 45, 3) := by decide +kernel
theorem dX11_bezout_122 : decode cX11_bezout 122 = .ok (.iconst 0, 1) := by decide +kernel
theorem dX11_bezout_123 : decode cX11_bezout 123 = .ok (.ireturn, 1) := by decide +kernel
theorem dX11_inverse_0 : decode cX11_inverse 0 = .ok (.aload_n 0, 1) := by decide +kernel
theorem dX11_inverse_1 : decode cX11_inverse 1 = .ok (.iconst 0, 1) := by decide +kernel
theorem dX11_inverse_2 : decode cX11_inverse 2 = .ok (.putfield 33, 3) := by decide +kernel
theorem dX11_inverse_5 : decode cX11_inverse 5 = .ok (.aload_n 0, 1) := by decide +kernel
theorem dX11_inverse_6 : decode cX11_inverse 6 = .ok (.iload_n 1, 1) := by decide +kernel
theorem dX11_inverse_7 : decode cX11_inverse 7 = .ok (.invokevirtual 78, 3) := by decide +kernel
theorem dX11_inverse_10 : decode cX11_inverse 10 = .ok (.ifCond .ne 19, 3) := by decide +kernel
theorem dX11_inverse_13 : decode cX11_inverse 13 = .ok (.aload_n 0, 1) := by decide +kernel
theorem dX11_inverse_14 : decode cX11_inverse 14 = .ok (.iload_n 2, 1) := by decide +kernel
theorem dX11_inverse_15 : decode cX11_inverse 15 = .ok (.invokevirtual 78, 3) := by decide +kernel
theorem dX11_inverse_18 : decode cX11_inverse 18 = .ok (.ifCond .ne 11, 3) := by decide +kernel
theorem dX11_inverse_21 : decode cX11_inverse 21 = .ok (.aload_n 0, 1) := by decide +kernel
theorem dX11_inverse_22 : decode cX11_inverse 22 = .ok (.iload_n 3, 1) := by decide +kernel
theorem dX11_inverse_23 : decode cX11_inverse 23 = .ok (.invokevirtual 78, 3) := by decide +kernel
theorem dX11_inverse_26 : decode cX11_inverse 26 = .ok (.ifCond .eq 5, 3) := by decide +kernel
theorem dX11_inverse_29 : decode cX11_inverse 29 = .ok (.iconst 3, 1) := by decide +kernel
theorem dX11_inverse_30 : decode cX11_inverse 30 = .ok (.ireturn, 1) := by decide +kernel
theorem dX11_inverse_31 : decode cX11_inverse 31 = .ok (.aload_n 0, 1) := by decide +kernel
theorem dX11_inverse_32 : decode cX11_inverse 32 = .ok (.getfield 16, 3) := by decide +kernel
theorem dX11_inverse_35 : decode cX11_inverse 35 = .ok (.iload_n 3, 1) := by decide +kernel
theorem dX11_inverse_36 : decode cX11_inverse 36 = .ok (.iaload, 1) := by decide +kernel
theorem dX11_inverse_37 : decode cX11_inverse 37 = .ok (.iconst 1, 1) := by decide +kernel
theorem dX11_inverse_38 : decode cX11_inverse 38 = .ok (.if_icmp .ge 5, 3) := by decide +kernel
theorem dX11_inverse_41 : decode cX11_inverse 41 = .ok (.iconst 2, 1) := by decide +kernel
theorem dX11_inverse_42 : decode cX11_inverse 42 = .ok (.ireturn, 1) := by decide +kernel
theorem dX11_inverse_43 : decode cX11_inverse 43 = .ok (.aload_n 0, 1) := by decide +kernel
theorem dX11_inverse_44 : decode cX11_inverse 44 = .ok (.bipush 17, 2) := by decide +kernel
theorem dX11_inverse_46 : decode cX11_inverse 46 = .ok (.bipush 27, 2) := by decide +kernel
theorem dX11_inverse_48 : decode cX11_inverse 48 = .ok (.iload_n 2, 1) := by decide +kernel
theorem dX11_inverse_49 : decode cX11_inverse 49 = .ok (.iload_n 3, 1) := by decide +kernel
theorem dX11_inverse_50 : decode cX11_inverse 50 = .ok (.invokevirtual 87, 3) := by decide +kernel
theorem dX11_inverse_53 : decode cX11_inverse 53 = .ok (.aload_n 0, 1) := by decide +kernel
theorem dX11_inverse_54 : decode cX11_inverse 54 = .ok (.bipush 26, 2) := by decide +kernel
theorem dX11_inverse_56 : decode cX11_inverse 56 = .ok (.bipush 27, 2) := by decide +kernel
theorem dX11_inverse_58 : decode cX11_inverse 58 = .ok (.invokevirtual 45, 3) := by decide +kernel
theorem dX11_inverse_61 : decode cX11_inverse 61 = .ok (.aload_n 0, 1) := by decide +kernel
theorem dX11_inverse_62 : decode cX11_inverse 62 = .ok (.bipush 28, 2) := by decide +kernel
theorem dX11_inverse_64 : decode cX11_inverse 64 = .ok (.iload_n 3, 1) := by decide +kernel
theorem dX11_inverse_65 : decode cX11_inverse 65 = .ok (.invokevirtual 45, 3) := by decide +kernel
theorem dX11_inverse_68 : decode cX11_inverse 68 = .ok (.aload_n 0, 1) := by decide +kernel
theorem dX11_inverse_69 : decode cX11_inverse 69 = .ok (.bipush 26, 2) := by decide +kernel
theorem dX11_inverse_71 : decode cX11_inverse 71 = .ok (.bipush 28, 2) := by decide +kernel
theorem dX11_inverse_73 : decode cX11_inverse 73 = .ok (.invokevirtual 140, 3) := by decide +kernel
theorem dX11_inverse_76 : decode cX11_inverse 76 = .ok (.aload_n 0, 1) := by decide +kernel
theorem dX11_inverse_77 : decode cX11_inverse 77 = .ok (.getfield 13, 3) := by decide +kernel
theorem dX11_inverse_80 : decode cX11_inverse 80 = .ok (.bipush 20, 2) := by decide +kernel
theorem dX11_inverse_82 : decode cX11_inverse 82 = .ok (.iaload, 1) := by decide +kernel
theorem dX11_inverse_83 : decode cX11_inverse 83 = .ok (.iconst 1, 1) := by decide +kernel
theorem dX11_inverse_84 : decode cX11_inverse 84 = .ok (.if_icmp .ne 15, 3) := by decide +kernel
theorem dX11_inverse_87 : decode cX11_inverse 87 = .ok (.aload_n 0, 1) := by decide +kernel
theorem dX11_inverse_88 : decode cX11_inverse 88 = .ok (.getfield 7, 3) := by decide +kernel
theorem dX11_inverse_91 : decode cX11_inverse 91 = .ok (.sipush 5200, 3) := by decide +kernel
theorem dX11_inverse_94 : decode cX11_inverse 94 = .ok (.iaload, 1) := by decide +kernel
theorem dX11_inverse_95 : decode cX11_inverse 95 = .ok (.iconst 1, 1) := by decide +kernel
theorem dX11_inverse_96 : decode cX11_inverse 96 = .ok (.if_icmp .eq 5, 3) := by decide +kernel
theorem dX11_inverse_99 : decode cX11_inverse 99 = .ok (.iconst 2, 1) := by decide +kernel
theorem dX11_inverse_100 : decode cX11_inverse 100 = .ok (.ireturn, 1) := by decide +kernel
theorem dX11_inverse_101 : decode cX11_inverse 101 = .ok (.aload_n 0, 1) := by decide +kernel
theorem dX11_inverse_102 : decode cX11_inverse 102 = .ok (.bipush 17, 2) := by decide +kernel
theorem dX11_inverse_104 : decode cX11_inverse 104 = .ok (.bipush 27, 2) := by decide +kernel
theorem dX11_inverse_106 : decode cX11_inverse 106 = .ok (.bipush 22, 2) := by decide +kernel
theorem dX11_inverse_108 : decode cX11_inverse 108 = .ok (.bipush 28, 2) := by decide +kernel
theorem dX11_inverse_110 : decode cX11_inverse 110 = .ok (.invokevirtual 87, 3) := by decide +kernel
theorem dX11_inverse_113 : decode cX11_inverse 113 = .ok (.aload_n 0, 1) := by decide +kernel
theorem dX11_inverse_114 : decode cX11_inverse 114 = .ok (.iload_n 1, 1) := by decide +kernel
theorem dX11_inverse_115 : decode cX11_inverse 115 = .ok (.bipush 27, 2) := by decide +kernel
theorem dX11_inverse_117 : decode cX11_inverse 117 = .ok (.invokevirtual 45, 3) := by decide +kernel
theorem dX11_inverse_120 : decode cX11_inverse 120 = .ok (.iconst 0, 1) := by decide +kernel
theorem dX11_inverse_121 : decode cX11_inverse 121 = .ok (.ireturn, 1) := by decide +kernel
theorem dX11_power_0 : decode cX11_power 0 = .ok (.aload_n 0, 1) := by decide +kernel
theorem dX11_power_1 : decode cX11_power 1 = .ok (.iconst 0, 1) := by decide +kernel
theorem dX11_power_2 : decode cX11_power 2 = .ok (.putfield 33, 3) := by decide +kernel
theorem dX11_power_5 : decode cX11_power 5 = .ok (.aload_n 0, 1) := by decide +kernel
theorem dX11_power_6 : decode cX11_power 6 = .ok (.iload_n 1, 1) := by decide +kernel
theorem dX11_power_7 : decode cX11_power 7 = .ok (.invokevirtual 78, 3) := by decide +kernel
theorem dX11_power_10 : decode cX11_power 10 = .ok (.ifCond .ne 28, 3) := by decide +kernel
theorem dX11_power_13 : decode cX11_power 13 = .ok (.aload_n 0, 1) := by decide +kernel
theorem dX11_power_14 : decode cX11_power 14 = .ok (.iload_n 2, 1) := by decide +kernel
theorem dX11_power_15 : decode cX11_power 15 = .ok (.invokevirtual 78, 3) := by decide +kernel
theorem dX11_power_18 : decode cX11_power 18 = .ok (.ifCond .ne 20, 3) := by decide +kernel
theorem dX11_power_21 : decode cX11_power 21 = .ok (.aload_n 0, 1) := by decide +kernel
theorem dX11_power_22 : decode cX11_power 22 = .ok (.iload_n 3, 1) := by decide +kernel
theorem dX11_power_23 : decode cX11_power 23 = .ok (.invokevirtual 78, 3) := by decide +kernel
theorem dX11_power_26 : decode cX11_power 26 = .ok (.ifCond .ne 12, 3) := by decide +kernel
theorem dX11_power_29 : decode cX11_power 29 = .ok (.aload_n 0, 1) := by decide +kernel
theorem dX11_power_30 : decode cX11_power 30 = .ok (.iload 4, 2) := by decide +kernel
theorem dX11_power_32 : decode cX11_power 32 = .ok (.invokevirtual 78, 3) := by decide +kernel
theorem dX11_power_35 : decode cX11_power 35 = .ok (.ifCond .eq 5, 3) := by decide +kernel
theorem dX11_power_38 : decode cX11_power 38 = .ok (.iconst 3, 1) := by decide +kernel
theorem dX11_power_39 : decode cX11_power 39 = .ok (.ireturn, 1) := by decide +kernel
theorem dX11_power_40 : decode cX11_power 40 = .ok (.aload_n 0, 1) := by decide +kernel
theorem dX11_power_41 : decode cX11_power 41 = .ok (.getfield 16, 3) := by decide +kernel
theorem dX11_power_44 : decode cX11_power 44 = .ok (.iload_n 3, 1) := by decide +kernel
theorem dX11_power_45 : decode cX11_power 45 = .ok (.iaload, 1) := by decide +kernel
theorem dX11_power_46 : decode cX11_power 46 = .ok (.ifCond .lt 14, 3) := by decide +kernel
theorem dX11_power_49 : decode cX11_power 49 = .ok (.aload_n 0, 1) := by decide +kernel
theorem dX11_power_50 : decode cX11_power 50 = .ok (.getfield 16, 3) := by decide +kernel
theorem dX11_power_53 : decode cX11_power 53 = .ok (.iload 4, 2) := by decide +kernel
theorem dX11_power_55 : decode cX11_power 55 = .ok (.iaload, 1) := by decide +kernel
theorem dX11_power_56 : decode cX11_power 56 = .ok (.iconst 1, 1) := by decide +kernel
theorem dX11_power_57 : decode cX11_power 57 = .ok (.if_icmp .ge 5, 3) := by decide +kernel
theorem dX11_power_60 : decode cX11_power 60 = .ok (.iconst 2, 1) := by decide +kernel
theorem dX11_power_61 : decode cX11_power 61 = .ok (.ireturn, 1) := by decide +kernel
theorem dX11_power_62 : decode cX11_power 62 = .ok (.aload_n 0, 1) := by decide +kernel
theorem dX11_power_63 : decode cX11_power 63 = .ok (.bipush 17, 2) := by decide +kernel
theorem dX11_power_65 : decode cX11_power 65 = .ok (.bipush 27, 2) := by decide +kernel
theorem dX11_power_67 : decode cX11_power 67 = .ok (.iload_n 2, 1) := by decide +kernel
theorem dX11_power_68 : decode cX11_power 68 = .ok (.iload 4, 2) := by decide +kernel
theorem dX11_power_70 : decode cX11_power 70 = .ok (.invokevirtual 87, 3) := by decide +kernel
theorem dX11_power_73 : decode cX11_power 73 = .ok (.aload_n 0, 1) := by decide +kernel
theorem dX11_power_74 : decode cX11_power 74 = .ok (.bipush 26, 2) := by decide +kernel
theorem dX11_power_76 : decode cX11_power 76 = .ok (.iconst 1, 1) := by decide +kernel
theorem dX11_power_77 : decode cX11_power 77 = .ok (.invokevirtual 56, 3) := by decide +kernel
theorem dX11_power_80 : decode cX11_power 80 = .ok (.aload_n 0, 1) := by decide +kernel
theorem dX11_power_81 : decode cX11_power 81 = .ok (.bipush 17, 2) := by decide +kernel
theorem dX11_power_83 : decode cX11_power 83 = .ok (.bipush 18, 2) := by decide +kernel
theorem dX11_power_85 : decode cX11_power 85 = .ok (.bipush 26, 2) := by decide +kernel
theorem dX11_power_87 : decode cX11_power 87 = .ok (.iload 4, 2) := by decide +kernel
theorem dX11_power_89 : decode cX11_power 89 = .ok (.invokevirtual 68, 3) := by decide +kernel
theorem dX11_power_92 : decode cX11_power 92 = .ok (.aload_n 0, 1) := by decide +kernel
theorem dX11_power_93 : decode cX11_power 93 = .ok (.bipush 26, 2) := by decide +kernel
theorem dX11_power_95 : decode cX11_power 95 = .ok (.bipush 18, 2) := by decide +kernel
theorem dX11_power_97 : decode cX11_power 97 = .ok (.invokevirtual 45, 3) := by decide +kernel
theorem dX11_power_100 : decode cX11_power 100 = .ok (.aload_n 0, 1) := by decide +kernel
theorem dX11_power_101 : decode cX11_power 101 = .ok (.iload_n 3, 1) := by decide +kernel
theorem dX11_power_102 : decode cX11_power 102 = .ok (.invokevirtual 90, 3) := by decide +kernel
theorem dX11_power_105 : decode cX11_power 105 = .ok (.iconst 1, 1) := by decide +kernel
theorem dX11_power_106 : decode cX11_power 106 = .ok (.isub, 1) := by decide +kernel
theorem dX11_power_107 : decode cX11_power 107 = .ok (.istore 5, 2) := by decide +kernel
theorem dX11_power_109 : decode cX11_power 109 = .ok (.iload 5, 2) := by decide +kernel
theorem dX11_power_111 : decode cX11_power 111 = .ok (.ifCond .lt 66, 3) := by decide +kernel
theorem dX11_power_114 : decode cX11_power 114 = .ok (.aload_n 0, 1) := by decide +kernel
theorem dX11_power_115 : decode cX11_power 115 = .ok (.bipush 25, 2) := by decide +kernel
theorem dX11_power_117 : decode cX11_power 117 = .ok (.bipush 26, 2) := by decide +kernel
theorem dX11_power_119 : decode cX11_power 119 = .ok (.bipush 26, 2) := by decide +kernel
theorem dX11_power_121 : decode cX11_power 121 = .ok (.invokevirtual 84, 3) := by decide +kernel
theorem dX11_power_124 : decode cX11_power 124 = .ok (.aload_n 0, 1) := by decide +kernel
theorem dX11_power_125 : decode cX11_power 125 = .ok (.bipush 17, 2) := by decide +kernel
theorem dX11_power_127 : decode cX11_power 127 = .ok (.bipush 26, 2) := by decide +kernel
theorem dX11_power_129 : decode cX11_power 129 = .ok (.bipush 25, 2) := by decide +kernel
theorem dX11_power_131 : decode cX11_power 131 = .ok (.iload 4, 2) := by decide +kernel
theorem dX11_power_133 : decode cX11_power 133 = .ok (.invokevirtual 68, 3) := by decide +kernel
theorem dX11_power_136 : decode cX11_power 136 = .ok (.aload_n 0, 1) := by decide +kernel
theorem dX11_power_137 : decode cX11_power 137 = .ok (.iload_n 3, 1) := by decide +kernel
theorem dX11_power_138 : decode cX11_power 138 = .ok (.iload 5, 2) := by decide +kernel
theorem dX11_power_140 : decode cX11_power 140 = .ok (.invokevirtual 100, 3) := by decide +kernel
theorem dX11_power_143 : decode cX11_power 143 = .ok (.ifCond .ne 6, 3) := by decide +kernel
theorem dX11_power_146 : decode cX11_power 146 = .ok (.goto 25, 3) := by decide +kernel
theorem dX11_power_149 : decode cX11_power 149 = .ok (.aload_n 0, 1) := by decide +kernel
theorem dX11_power_150 : decode cX11_power 150 = .ok (.bipush 25, 2) := by decide +kernel
theorem dX11_power_152 : decode cX11_power 152 = .ok (.bipush 26, 2) := by decide +kernel
theorem dX11_power_154 : decode cX11_power 154 = .ok (.bipush 27, 2) := by decide +kernel
theorem dX11_power_156 : decode cX11_power 156 = .ok (.invokevirtual 84, 3) := by decide +kernel
theorem dX11_power_159 : decode cX11_power 159 = .ok (.aload_n 0, 1) := by decide +kernel
theorem dX11_power_160 : decode cX11_power 160 = .ok (.bipush 17, 2) := by decide +kernel
theorem dX11_power_162 : decode cX11_power 162 = .ok (.bipush 26, 2) := by decide +kernel
theorem dX11_power_164 : decode cX11_power 164 = .ok (.bipush 25, 2) := by decide +kernel
theorem dX11_power_166 : decode cX11_power 166 = .ok (.iload 4, 2) := by decide +kernel
theorem dX11_power_168 : decode cX11_power 168 = .ok (.invokevirtual 68, 3) := by decide +kernel
theorem dX11_power_171 : decode cX11_power 171 = .ok (.iinc 5 (-1), 3) := by decide +kernel
theorem dX11_power_174 : decode cX11_power 174 = .ok (.goto (-65), 3) := by decide +kernel
theorem dX11_power_177 : decode cX11_power 177 = .ok (.aload_n 0, 1) := by decide +kernel
theorem dX11_power_178 : decode cX11_power 178 = .ok (.iload_n 1, 1) := by decide +kernel
theorem dX11_power_179 : decode cX11_power 179 = .ok (.bipush 26, 2) := by decide +kernel
theorem dX11_power_181 : decode cX11_power 181 = .ok (.invokevirtual 45, 3) := by decide +kernel
theorem dX11_power_184 : decode cX11_power 184 = .ok (.iconst 0, 1) := by decide +kernel
theorem dX11_power_185 : decode cX11_power 185 = .ok (.ireturn, 1) := by decide +kernel
theorem dX11_isLow_0 : decode cX11_isLow 0 = .ok (.aload_n 0, 1) := by decide +kernel
theorem dX11_isLow_1 : decode cX11_isLow 1 = .ok (.bipush 25, 2) := by decide +kernel
theorem dX11_isLow_3 : decode cX11_isLow 3 = .ok (.iconst 1, 1) := by decide +kernel
theorem dX11_isLow_4 : decode cX11_isLow 4 = .ok (.invokevirtual 56, 3) := by decide +kernel
theorem dX11_isLow_7 : decode cX11_isLow 7 = .ok (.iconst 0, 1) := by decide +kernel
theorem dX11_isLow_8 : decode cX11_isLow 8 = .ok (.istore_n 2, 1) := by decide +kernel
theorem dX11_isLow_9 : decode cX11_isLow 9 = .ok (.iload_n 2, 1) := by decide +kernel
theorem dX11_isLow_10 : decode cX11_isLow 10 = .ok (.iload_n 1, 1) := by decide +kernel
theorem dX11_isLow_11 : decode cX11_isLow 11 = .ok (.if_icmp .ge 40, 3) := by decide +kernel
theorem dX11_isLow_14 : decode cX11_isLow 14 = .ok (.aload_n 0, 1) := by decide +kernel
theorem dX11_isLow_15 : decode cX11_isLow 15 = .ok (.bipush 19, 2) := by decide +kernel
theorem dX11_isLow_17 : decode cX11_isLow 17 = .ok (.bipush 25, 2) := by decide +kernel
theorem dX11_isLow_19 : decode cX11_isLow 19 = .ok (.bipush 27, 2) := by decide +kernel
theorem dX11_isLow_21 : decode cX11_isLow 21 = .ok (.invokevirtual 84, 3) := by decide +kernel
theorem dX11_isLow_24 : decode cX11_isLow 24 = .ok (.aload_n 0, 1) := by decide +kernel
theorem dX11_isLow_25 : decode cX11_isLow 25 = .ok (.bipush 19, 2) := by decide +kernel
theorem dX11_isLow_27 : decode cX11_isLow 27 = .ok (.bipush 26, 2) := by decide +kernel
theorem dX11_isLow_29 : decode cX11_isLow 29 = .ok (.invokevirtual 53, 3) := by decide +kernel
theorem dX11_isLow_32 : decode cX11_isLow 32 = .ok (.ifCond .le 5, 3) := by decide +kernel
theorem dX11_isLow_35 : decode cX11_isLow 35 = .ok (.iconst 0, 1) := by decide +kernel
theorem dX11_isLow_36 : decode cX11_isLow 36 = .ok (.ireturn, 1) := by decide +kernel
theorem dX11_isLow_37 : decode cX11_isLow 37 = .ok (.aload_n 0, 1) := by decide +kernel
theorem dX11_isLow_38 : decode cX11_isLow 38 = .ok (.bipush 25, 2) := by decide +kernel
theorem dX11_isLow_40 : decode cX11_isLow 40 = .ok (.bipush 19, 2) := by decide +kernel
theorem dX11_isLow_42 : decode cX11_isLow 42 = .ok (.invokevirtual 45, 3) := by decide +kernel
theorem dX11_isLow_45 : decode cX11_isLow 45 = .ok (.iinc 2 1, 3) := by decide +kernel
theorem dX11_isLow_48 : decode cX11_isLow 48 = .ok (.goto (-39), 3) := by decide +kernel
theorem dX11_isLow_51 : decode cX11_isLow 51 = .ok (.iconst 1, 1) := by decide +kernel
theorem dX11_isLow_52 : decode cX11_isLow 52 = .ok (.ireturn, 1) := by decide +kernel
theorem dX11_rooted_0 : decode cX11_rooted 0 = .ok (.aload_n 0, 1) := by decide +kernel
theorem dX11_rooted_1 : decode cX11_rooted 1 = .ok (.bipush 27, 2) := by decide +kernel
theorem dX11_rooted_3 : decode cX11_rooted 3 = .ok (.iconst 0, 1) := by decide +kernel
theorem dX11_rooted_4 : decode cX11_rooted 4 = .ok (.invokevirtual 56, 3) := by decide +kernel
theorem dX11_rooted_7 : decode cX11_rooted 7 = .ok (.aload_n 0, 1) := by decide +kernel
theorem dX11_rooted_8 : decode cX11_rooted 8 = .ok (.getfield 13, 3) := by decide +kernel
theorem dX11_rooted_11 : decode cX11_rooted 11 = .ok (.bipush 26, 2) := by decide +kernel
theorem dX11_rooted_13 : decode cX11_rooted 13 = .ok (.iaload, 1) := by decide +kernel
theorem dX11_rooted_14 : decode cX11_rooted 14 = .ok (.ifCond .ne 4, 3) := by decide +kernel
theorem dX11_rooted_17 : decode cX11_rooted 17 = .ok (.return_, 1) := by decide +kernel
theorem dX11_rooted_18 : decode cX11_rooted 18 = .ok (.iload_n 1, 1) := by decide +kernel
theorem dX11_rooted_19 : decode cX11_rooted 19 = .ok (.aload_n 0, 1) := by decide +kernel
theorem dX11_rooted_20 : decode cX11_rooted 20 = .ok (.bipush 26, 2) := by decide +kernel
theorem dX11_rooted_22 : decode cX11_rooted 22 = .ok (.invokevirtual 90, 3) := by decide +kernel
theorem dX11_rooted_25 : decode cX11_rooted 25 = .ok (.if_icmp .lt 11, 3) := by decide +kernel
theorem dX11_rooted_28 : decode cX11_rooted 28 = .ok (.aload_n 0, 1) := by decide +kernel
theorem dX11_rooted_29 : decode cX11_rooted 29 = .ok (.bipush 27, 2) := by decide +kernel
theorem dX11_rooted_31 : decode cX11_rooted 31 = .ok (.iconst 1, 1) := by decide +kernel
theorem dX11_rooted_32 : decode cX11_rooted 32 = .ok (.invokevirtual 56, 3) := by decide +kernel
theorem dX11_rooted_35 : decode cX11_rooted 35 = .ok (.return_, 1) := by decide +kernel
theorem dX11_rooted_36 : decode cX11_rooted 36 = .ok (.aload_n 0, 1) := by decide +kernel
theorem dX11_rooted_37 : decode cX11_rooted 37 = .ok (.bipush 26, 2) := by decide +kernel
theorem dX11_rooted_39 : decode cX11_rooted 39 = .ok (.invokevirtual 90, 3) := by decide +kernel
theorem dX11_rooted_42 : decode cX11_rooted 42 = .ok (.iconst 1, 1) := by decide +kernel
theorem dX11_rooted_43 : decode cX11_rooted 43 = .ok (.isub, 1) := by decide +kernel
theorem dX11_rooted_44 : decode cX11_rooted 44 = .ok (.iload_n 1, 1) := by decide +kernel
theorem dX11_rooted_45 : decode cX11_rooted 45 = .ok (.idiv, 1) := by decide +kernel
theorem dX11_rooted_46 : decode cX11_rooted 46 = .ok (.iconst 1, 1) := by decide +kernel
theorem dX11_rooted_47 : decode cX11_rooted 47 = .ok (.iadd, 1) := by decide +kernel
theorem dX11_rooted_48 : decode cX11_rooted 48 = .ok (.istore_n 2, 1) := by decide +kernel
theorem dX11_rooted_49 : decode cX11_rooted 49 = .ok (.iconst 0, 1) := by decide +kernel
theorem dX11_rooted_50 : decode cX11_rooted 50 = .ok (.istore_n 3, 1) := by decide +kernel
theorem dX11_rooted_51 : decode cX11_rooted 51 = .ok (.iload_n 3, 1) := by decide +kernel
theorem dX11_rooted_52 : decode cX11_rooted 52 = .ok (.sipush 260, 3) := by decide +kernel
theorem dX11_rooted_55 : decode cX11_rooted 55 = .ok (.if_icmp .ge 20, 3) := by decide +kernel
theorem dX11_rooted_58 : decode cX11_rooted 58 = .ok (.aload_n 0, 1) := by decide +kernel
theorem dX11_rooted_59 : decode cX11_rooted 59 = .ok (.getfield 7, 3) := by decide +kernel
theorem dX11_rooted_62 : decode cX11_rooted 62 = .ok (.sipush 7020, 3) := by decide +kernel
theorem dX11_rooted_65 : decode cX11_rooted 65 = .ok (.iload_n 3, 1) := by decide +kernel
theorem dX11_rooted_66 : decode cX11_rooted 66 = .ok (.iadd, 1) := by decide +kernel
theorem dX11_rooted_67 : decode cX11_rooted 67 = .ok (.iconst 0, 1) := by decide +kernel
theorem dX11_rooted_68 : decode cX11_rooted 68 = .ok (.iastore, 1) := by decide +kernel
theorem dX11_rooted_69 : decode cX11_rooted 69 = .ok (.iinc 3 1, 3) := by decide +kernel
theorem dX11_rooted_72 : decode cX11_rooted 72 = .ok (.goto (-21), 3) := by decide +kernel
theorem dX11_rooted_75 : decode cX11_rooted 75 = .ok (.iload_n 2, 1) := by decide +kernel
theorem dX11_rooted_76 : decode cX11_rooted 76 = .ok (.iconst 1, 1) := by decide +kernel
theorem dX11_rooted_77 : decode cX11_rooted 77 = .ok (.isub, 1) := by decide +kernel
theorem dX11_rooted_78 : decode cX11_rooted 78 = .ok (.istore_n 3, 1) := by decide +kernel
theorem dX11_rooted_79 : decode cX11_rooted 79 = .ok (.iload_n 3, 1) := by decide +kernel
theorem dX11_rooted_80 : decode cX11_rooted 80 = .ok (.ifCond .lt 89, 3) := by decide +kernel
theorem dX11_rooted_83 : decode cX11_rooted 83 = .ok (.aload_n 0, 1) := by decide +kernel
theorem dX11_rooted_84 : decode cX11_rooted 84 = .ok (.getfield 7, 3) := by decide +kernel
theorem dX11_rooted_87 : decode cX11_rooted 87 = .ok (.sipush 7020, 3) := by decide +kernel
theorem dX11_rooted_90 : decode cX11_rooted 90 = .ok (.iload_n 3, 1) := by decide +kernel
theorem dX11_rooted_91 : decode cX11_rooted 91 = .ok (.iconst 4, 1) := by decide +kernel
theorem dX11_rooted_92 : decode cX11_rooted 92 = .ok (.ishr, 1) := by decide +kernel
theorem dX11_rooted_93 : decode cX11_rooted 93 = .ok (.iadd, 1) := by decide +kernel
theorem dX11_rooted_94 : decode cX11_rooted 94 = .ok (.dup2, 1) := by decide +kernel
theorem dX11_rooted_95 : decode cX11_rooted 95 = .ok (.iaload, 1) := by decide +kernel
theorem dX11_rooted_96 : decode cX11_rooted 96 = .ok (.iconst 1, 1) := by decide +kernel
theorem dX11_rooted_97 : decode cX11_rooted 97 = .ok (.iload_n 3, 1) := by decide +kernel
theorem dX11_rooted_98 : decode cX11_rooted 98 = .ok (.bipush 15, 2) := by decide +kernel
theorem dX11_rooted_100 : decode cX11_rooted 100 = .ok (.iand, 1) := by decide +kernel
theorem dX11_rooted_101 : decode cX11_rooted 101 = .ok (.ishl, 1) := by decide +kernel
theorem dX11_rooted_102 : decode cX11_rooted 102 = .ok (.ior, 1) := by decide +kernel
theorem dX11_rooted_103 : decode cX11_rooted 103 = .ok (.iastore, 1) := by decide +kernel
theorem dX11_rooted_104 : decode cX11_rooted 104 = .ok (.aload_n 0, 1) := by decide +kernel
theorem dX11_rooted_105 : decode cX11_rooted 105 = .ok (.bipush 27, 2) := by decide +kernel
theorem dX11_rooted_107 : decode cX11_rooted 107 = .ok (.iload_n 2, 1) := by decide +kernel
theorem dX11_rooted_108 : decode cX11_rooted 108 = .ok (.iconst 1, 1) := by decide +kernel
theorem dX11_rooted_109 : decode cX11_rooted 109 = .ok (.isub, 1) := by decide +kernel
theorem dX11_rooted_110 : decode cX11_rooted 110 = .ok (.iconst 4, 1) := by decide +kernel
theorem dX11_rooted_111 : decode cX11_rooted 111 = .ok (.ishr, 1) := by decide +kernel
theorem dX11_rooted_112 : decode cX11_rooted 112 = .ok (.iconst 1, 1) := by decide +kernel
theorem dX11_rooted_113 : decode cX11_rooted 113 = .ok (.iadd, 1) := by decide +kernel
theorem dX11_rooted_114 : decode cX11_rooted 114 = .ok (.iconst 1, 1) := by decide +kernel
theorem dX11_rooted_115 : decode cX11_rooted 115 = .ok (.invokevirtual 41, 3) := by decide +kernel
theorem dX11_rooted_118 : decode cX11_rooted 118 = .ok (.aload_n 0, 1) := by decide +kernel
theorem dX11_rooted_119 : decode cX11_rooted 119 = .ok (.iload_n 1, 1) := by decide +kernel
theorem dX11_rooted_120 : decode cX11_rooted 120 = .ok (.invokevirtual 143, 3) := by decide +kernel
theorem dX11_rooted_123 : decode cX11_rooted 123 = .ok (.ifCond .ne 26, 3) := by decide +kernel
theorem dX11_rooted_126 : decode cX11_rooted 126 = .ok (.aload_n 0, 1) := by decide +kernel
theorem dX11_rooted_127 : decode cX11_rooted 127 = .ok (.getfield 7, 3) := by decide +kernel
theorem dX11_rooted_130 : decode cX11_rooted 130 = .ok (.sipush 7020, 3) := by decide +kernel
theorem dX11_rooted_133 : decode cX11_rooted 133 = .ok (.iload_n 3, 1) := by decide +kernel
theorem dX11_rooted_134 : decode cX11_rooted 134 = .ok (.iconst 4, 1) := by decide +kernel
theorem dX11_rooted_135 : decode cX11_rooted 135 = .ok (.ishr, 1) := by decide +kernel
theorem dX11_rooted_136 : decode cX11_rooted 136 = .ok (.iadd, 1) := by decide +kernel
theorem dX11_rooted_137 : decode cX11_rooted 137 = .ok (.dup2, 1) := by decide +kernel
theorem dX11_rooted_138 : decode cX11_rooted 138 = .ok (.iaload, 1) := by decide +kernel
theorem dX11_rooted_139 : decode cX11_rooted 139 = .ok (.iconst 1, 1) := by decide +kernel
theorem dX11_rooted_140 : decode cX11_rooted 140 = .ok (.iload_n 3, 1) := by decide +kernel
theorem dX11_rooted_141 : decode cX11_rooted 141 = .ok (.bipush 15, 2) := by decide +kernel
theorem dX11_rooted_143 : decode cX11_rooted 143 = .ok (.iand, 1) := by decide +kernel
theorem dX11_rooted_144 : decode cX11_rooted 144 = .ok (.ishl, 1) := by decide +kernel
theorem dX11_rooted_145 : decode cX11_rooted 145 = .ok (.iconst (-1), 1) := by decide +kernel
theorem dX11_rooted_146 : decode cX11_rooted 146 = .ok (.ixor, 1) := by decide +kernel
theorem dX11_rooted_147 : decode cX11_rooted 147 = .ok (.iand, 1) := by decide +kernel
theorem dX11_rooted_148 : decode cX11_rooted 148 = .ok (.iastore, 1) := by decide +kernel
theorem dX11_rooted_149 : decode cX11_rooted 149 = .ok (.aload_n 0, 1) := by decide +kernel
theorem dX11_rooted_150 : decode cX11_rooted 150 = .ok (.bipush 27, 2) := by decide +kernel
theorem dX11_rooted_152 : decode cX11_rooted 152 = .ok (.iload_n 2, 1) := by decide +kernel
theorem dX11_rooted_153 : decode cX11_rooted 153 = .ok (.iconst 1, 1) := by decide +kernel
theorem dX11_rooted_154 : decode cX11_rooted 154 = .ok (.isub, 1) := by decide +kernel
theorem dX11_rooted_155 : decode cX11_rooted 155 = .ok (.iconst 4, 1) := by decide +kernel
theorem dX11_rooted_156 : decode cX11_rooted 156 = .ok (.ishr, 1) := by decide +kernel
theorem dX11_rooted_157 : decode cX11_rooted 157 = .ok (.iconst 1, 1) := by decide +kernel
theorem dX11_rooted_158 : decode cX11_rooted 158 = .ok (.iadd, 1) := by decide +kernel
theorem dX11_rooted_159 : decode cX11_rooted 159 = .ok (.iconst 1, 1) := by decide +kernel
theorem dX11_rooted_160 : decode cX11_rooted 160 = .ok (.invokevirtual 41, 3) := by decide +kernel
theorem dX11_rooted_163 : decode cX11_rooted 163 = .ok (.iinc 3 (-1), 3) := by decide +kernel
theorem dX11_rooted_166 : decode cX11_rooted 166 = .ok (.goto (-87), 3) := by decide +kernel
theorem dX11_rooted_169 : decode cX11_rooted 169 = .ok (.return_, 1) := by decide +kernel
theorem dX11_isqrt_0 : decode cX11_isqrt 0 = .ok (.aload_n 0, 1) := by decide +kernel
theorem dX11_isqrt_1 : decode cX11_isqrt 1 = .ok (.iload_n 1, 1) := by decide +kernel
theorem dX11_isqrt_2 : decode cX11_isqrt 2 = .ok (.iload_n 2, 1) := by decide +kernel
theorem dX11_isqrt_3 : decode cX11_isqrt 3 = .ok (.iconst 2, 1) := by decide +kernel
theorem dX11_isqrt_4 : decode cX11_isqrt 4 = .ok (.invokevirtual 146, 3) := by decide +kernel
theorem dX11_isqrt_7 : decode cX11_isqrt 7 = .ok (.ireturn, 1) := by decide +kernel
theorem dX11_root_0 : decode cX11_root 0 = .ok (.aload_n 0, 1) := by decide +kernel
theorem dX11_root_1 : decode cX11_root 1 = .ok (.iconst 0, 1) := by decide +kernel
theorem dX11_root_2 : decode cX11_root 2 = .ok (.putfield 33, 3) := by decide +kernel
theorem dX11_root_5 : decode cX11_root 5 = .ok (.aload_n 0, 1) := by decide +kernel
theorem dX11_root_6 : decode cX11_root 6 = .ok (.iload_n 1, 1) := by decide +kernel
theorem dX11_root_7 : decode cX11_root 7 = .ok (.invokevirtual 78, 3) := by decide +kernel
theorem dX11_root_10 : decode cX11_root 10 = .ok (.ifCond .ne 11, 3) := by decide +kernel
theorem dX11_root_13 : decode cX11_root 13 = .ok (.aload_n 0, 1) := by decide +kernel
theorem dX11_root_14 : decode cX11_root 14 = .ok (.iload_n 2, 1) := by decide +kernel
theorem dX11_root_15 : decode cX11_root 15 = .ok (.invokevirtual 78, 3) := by decide +kernel
theorem dX11_root_18 : decode cX11_root 18 = .ok (.ifCond .eq 5, 3) := by decide +kernel
theorem dX11_root_21 : decode cX11_root 21 = .ok (.iconst 3, 1) := by decide +kernel
theorem dX11_root_22 : decode cX11_root 22 = .ok (.ireturn, 1) := by decide +kernel
theorem dX11_root_23 : decode cX11_root 23 = .ok (.aload_n 0, 1) := by decide +kernel
theorem dX11_root_24 : decode cX11_root 24 = .ok (.getfield 16, 3) := by decide +kernel
theorem dX11_root_27 : decode cX11_root 27 = .ok (.iload_n 2, 1) := by decide +kernel
theorem dX11_root_28 : decode cX11_root 28 = .ok (.iaload, 1) := by decide +kernel
theorem dX11_root_29 : decode cX11_root 29 = .ok (.ifCond .lt 8, 3) := by decide +kernel
theorem dX11_root_32 : decode cX11_root 32 = .ok (.iload_n 3, 1) := by decide +kernel
theorem dX11_root_33 : decode cX11_root 33 = .ok (.iconst 1, 1) := by decide +kernel
theorem dX11_root_34 : decode cX11_root 34 = .ok (.if_icmp .ge 5, 3) := by decide +kernel
theorem dX11_root_37 : decode cX11_root 37 = .ok (.iconst 2, 1) := by decide +kernel
theorem dX11_root_38 : decode cX11_root 38 = .ok (.ireturn, 1) := by decide +kernel
theorem dX11_root_39 : decode cX11_root 39 = .ok (.aload_n 0, 1) := by decide +kernel
theorem dX11_root_40 : decode cX11_root 40 = .ok (.bipush 26, 2) := by decide +kernel
theorem dX11_root_42 : decode cX11_root 42 = .ok (.iload_n 2, 1) := by decide +kernel
theorem dX11_root_43 : decode cX11_root 43 = .ok (.invokevirtual 45, 3) := by decide +kernel
theorem dX11_root_46 : decode cX11_root 46 = .ok (.iload_n 3, 1) := by decide +kernel
theorem dX11_root_47 : decode cX11_root 47 = .ok (.iconst 1, 1) := by decide +kernel
theorem dX11_root_48 : decode cX11_root 48 = .ok (.if_icmp .ne 14, 3) := by decide +kernel
theorem dX11_root_51 : decode cX11_root 51 = .ok (.aload_n 0, 1) := by decide +kernel
theorem dX11_root_52 : decode cX11_root 52 = .ok (.bipush 27, 2) := by decide +kernel
theorem dX11_root_54 : decode cX11_root 54 = .ok (.bipush 26, 2) := by decide +kernel
theorem dX11_root_56 : decode cX11_root 56 = .ok (.invokevirtual 45, 3) := by decide +kernel
theorem dX11_root_59 : decode cX11_root 59 = .ok (.goto 8, 3) := by decide +kernel
theorem dX11_root_62 : decode cX11_root 62 = .ok (.aload_n 0, 1) := by decide +kernel
theorem dX11_root_63 : decode cX11_root 63 = .ok (.iload_n 3, 1) := by decide +kernel
theorem dX11_root_64 : decode cX11_root 64 = .ok (.invokevirtual 149, 3) := by decide +kernel
theorem dX11_root_67 : decode cX11_root 67 = .ok (.aload_n 0, 1) := by decide +kernel
theorem dX11_root_68 : decode cX11_root 68 = .ok (.iload_n 1, 1) := by decide +kernel
theorem dX11_root_69 : decode cX11_root 69 = .ok (.bipush 27, 2) := by decide +kernel
theorem dX11_root_71 : decode cX11_root 71 = .ok (.invokevirtual 45, 3) := by decide +kernel
theorem dX11_root_74 : decode cX11_root 74 = .ok (.iconst 0, 1) := by decide +kernel
theorem dX11_root_75 : decode cX11_root 75 = .ok (.ireturn, 1) := by decide +kernel
theorem dX11_isSquare_0 : decode cX11_isSquare 0 = .ok (.aload_n 0, 1) := by decide +kernel
theorem dX11_isSquare_1 : decode cX11_isSquare 1 = .ok (.iconst 0, 1) := by decide +kernel
theorem dX11_isSquare_2 : decode cX11_isSquare 2 = .ok (.putfield 33, 3) := by decide +kernel
theorem dX11_isSquare_5 : decode cX11_isSquare 5 = .ok (.aload_n 0, 1) := by decide +kernel
theorem dX11_isSquare_6 : decode cX11_isSquare 6 = .ok (.iload_n 1, 1) := by decide +kernel
theorem dX11_isSquare_7 : decode cX11_isSquare 7 = .ok (.invokevirtual 78, 3) := by decide +kernel
theorem dX11_isSquare_10 : decode cX11_isSquare 10 = .ok (.ifCond .eq 5, 3) := by decide +kernel
theorem dX11_isSquare_13 : decode cX11_isSquare 13 = .ok (.iconst 3, 1) := by decide +kernel
theorem dX11_isSquare_14 : decode cX11_isSquare 14 = .ok (.ireturn, 1) := by decide +kernel
theorem dX11_isSquare_15 : decode cX11_isSquare 15 = .ok (.aload_n 0, 1) := by decide +kernel
theorem dX11_isSquare_16 : decode cX11_isSquare 16 = .ok (.getfield 16, 3) := by decide +kernel
theorem dX11_isSquare_19 : decode cX11_isSquare 19 = .ok (.iload_n 1, 1) := by decide +kernel
theorem dX11_isSquare_20 : decode cX11_isSquare 20 = .ok (.iaload, 1) := by decide +kernel
theorem dX11_isSquare_21 : decode cX11_isSquare 21 = .ok (.ifCond .ge 5, 3) := by decide +kernel
theorem dX11_isSquare_24 : decode cX11_isSquare 24 = .ok (.iconst 0, 1) := by decide +kernel
theorem dX11_isSquare_25 : decode cX11_isSquare 25 = .ok (.ireturn, 1) := by decide +kernel
theorem dX11_isSquare_26 : decode cX11_isSquare 26 = .ok (.aload_n 0, 1) := by decide +kernel
theorem dX11_isSquare_27 : decode cX11_isSquare 27 = .ok (.bipush 26, 2) := by decide +kernel
theorem dX11_isSquare_29 : decode cX11_isSquare 29 = .ok (.iload_n 1, 1) := by decide +kernel
theorem dX11_isSquare_30 : decode cX11_isSquare 30 = .ok (.invokevirtual 45, 3) := by decide +kernel
theorem dX11_isSquare_33 : decode cX11_isSquare 33 = .ok (.aload_n 0, 1) := by decide +kernel
theorem dX11_isSquare_34 : decode cX11_isSquare 34 = .ok (.iconst 2, 1) := by decide +kernel
theorem dX11_isSquare_35 : decode cX11_isSquare 35 = .ok (.invokevirtual 149, 3) := by decide +kernel
theorem dX11_isSquare_38 : decode cX11_isSquare 38 = .ok (.aload_n 0, 1) := by decide +kernel
theorem dX11_isSquare_39 : decode cX11_isSquare 39 = .ok (.bipush 19, 2) := by decide +kernel
theorem dX11_isSquare_41 : decode cX11_isSquare 41 = .ok (.bipush 27, 2) := by decide +kernel
theorem dX11_isSquare_43 : decode cX11_isSquare 43 = .ok (.bipush 27, 2) := by decide +kernel
theorem dX11_isSquare_45 : decode cX11_isSquare 45 = .ok (.invokevirtual 84, 3) := by decide +kernel
theorem dX11_isSquare_48 : decode cX11_isSquare 48 = .ok (.aload_n 0, 1) := by decide +kernel
theorem dX11_isSquare_49 : decode cX11_isSquare 49 = .ok (.bipush 19, 2) := by decide +kernel
theorem dX11_isSquare_51 : decode cX11_isSquare 51 = .ok (.bipush 26, 2) := by decide +kernel
theorem dX11_isSquare_53 : decode cX11_isSquare 53 = .ok (.invokevirtual 53, 3) := by decide +kernel
theorem dX11_isSquare_56 : decode cX11_isSquare 56 = .ok (.ifCond .ne 7, 3) := by decide +kernel
theorem dX11_isSquare_59 : decode cX11_isSquare 59 = .ok (.iconst 1, 1) := by decide +kernel
theorem dX11_isSquare_60 : decode cX11_isSquare 60 = .ok (.goto 4, 3) := by decide +kernel
theorem dX11_isSquare_63 : decode cX11_isSquare 63 = .ok (.iconst 0, 1) := by decide +kernel
theorem dX11_isSquare_64 : decode cX11_isSquare 64 = .ok (.ireturn, 1) := by decide +kernel
theorem dX11_jacobi_0 : decode cX11_jacobi 0 = .ok (.aload_n 0, 1) := by decide +kernel
theorem dX11_jacobi_1 : decode cX11_jacobi 1 = .ok (.iconst 0, 1) := by decide +kernel
theorem dX11_jacobi_2 : decode cX11_jacobi 2 = .ok (.putfield 33, 3) := by decide +kernel
theorem dX11_jacobi_5 : decode cX11_jacobi 5 = .ok (.aload_n 0, 1) := by decide +kernel
theorem dX11_jacobi_6 : decode cX11_jacobi 6 = .ok (.iload_n 1, 1) := by decide +kernel
theorem dX11_jacobi_7 : decode cX11_jacobi 7 = .ok (.invokevirtual 78, 3) := by decide +kernel
theorem dX11_jacobi_10 : decode cX11_jacobi 10 = .ok (.ifCond .ne 11, 3) := by decide +kernel
theorem dX11_jacobi_13 : decode cX11_jacobi 13 = .ok (.aload_n 0, 1) := by decide +kernel
theorem dX11_jacobi_14 : decode cX11_jacobi 14 = .ok (.iload_n 2, 1) := by decide +kernel
theorem dX11_jacobi_15 : decode cX11_jacobi 15 = .ok (.invokevirtual 78, 3) := by decide +kernel
theorem dX11_jacobi_18 : decode cX11_jacobi 18 = .ok (.ifCond .eq 5, 3) := by decide +kernel
theorem dX11_jacobi_21 : decode cX11_jacobi 21 = .ok (.iconst 3, 1) := by decide +kernel
theorem dX11_jacobi_22 : decode cX11_jacobi 22 = .ok (.ireturn, 1) := by decide +kernel
theorem dX11_jacobi_23 : decode cX11_jacobi 23 = .ok (.aload_n 0, 1) := by decide +kernel
theorem dX11_jacobi_24 : decode cX11_jacobi 24 = .ok (.getfield 16, 3) := by decide +kernel
theorem dX11_jacobi_27 : decode cX11_jacobi 27 = .ok (.iload_n 2, 1) := by decide +kernel
theorem dX11_jacobi_28 : decode cX11_jacobi 28 = .ok (.iaload, 1) := by decide +kernel
theorem dX11_jacobi_29 : decode cX11_jacobi 29 = .ok (.iconst 1, 1) := by decide +kernel
theorem dX11_jacobi_30 : decode cX11_jacobi 30 = .ok (.if_icmp .lt 12, 3) := by decide +kernel
theorem dX11_jacobi_33 : decode cX11_jacobi 33 = .ok (.aload_n 0, 1) := by decide +kernel
theorem dX11_jacobi_34 : decode cX11_jacobi 34 = .ok (.iload_n 2, 1) := by decide +kernel
theorem dX11_jacobi_35 : decode cX11_jacobi 35 = .ok (.iconst 0, 1) := by decide +kernel
theorem dX11_jacobi_36 : decode cX11_jacobi 36 = .ok (.invokevirtual 100, 3) := by decide +kernel
theorem dX11_jacobi_39 : decode cX11_jacobi 39 = .ok (.ifCond .ne 5, 3) := by decide +kernel
theorem dX11_jacobi_42 : decode cX11_jacobi 42 = .ok (.iconst 2, 1) := by decide +kernel
theorem dX11_jacobi_43 : decode cX11_jacobi 43 = .ok (.ireturn, 1) := by decide +kernel
theorem dX11_jacobi_44 : decode cX11_jacobi 44 = .ok (.aload_n 0, 1) := by decide +kernel
theorem dX11_jacobi_45 : decode cX11_jacobi 45 = .ok (.bipush 21, 2) := by decide +kernel
theorem dX11_jacobi_47 : decode cX11_jacobi 47 = .ok (.iload_n 2, 1) := by decide +kernel
theorem dX11_jacobi_48 : decode cX11_jacobi 48 = .ok (.invokevirtual 45, 3) := by decide +kernel
theorem dX11_jacobi_51 : decode cX11_jacobi 51 = .ok (.aload_n 0, 1) := by decide +kernel
theorem dX11_jacobi_52 : decode cX11_jacobi 52 = .ok (.bipush 17, 2) := by decide +kernel
theorem dX11_jacobi_54 : decode cX11_jacobi 54 = .ok (.bipush 18, 2) := by decide +kernel
theorem dX11_jacobi_56 : decode cX11_jacobi 56 = .ok (.iload_n 1, 1) := by decide +kernel
theorem dX11_jacobi_57 : decode cX11_jacobi 57 = .ok (.bipush 21, 2) := by decide +kernel
theorem dX11_jacobi_59 : decode cX11_jacobi 59 = .ok (.invokevirtual 87, 3) := by decide +kernel
theorem dX11_jacobi_62 : decode cX11_jacobi 62 = .ok (.aload_n 0, 1) := by decide +kernel
theorem dX11_jacobi_63 : decode cX11_jacobi 63 = .ok (.bipush 20, 2) := by decide +kernel
theorem dX11_jacobi_65 : decode cX11_jacobi 65 = .ok (.bipush 18, 2) := by decide +kernel
theorem dX11_jacobi_67 : decode cX11_jacobi 67 = .ok (.invokevirtual 45, 3) := by decide +kernel
theorem dX11_jacobi_70 : decode cX11_jacobi 70 = .ok (.iconst 1, 1) := by decide +kernel
theorem dX11_jacobi_71 : decode cX11_jacobi 71 = .ok (.istore_n 3, 1) := by decide +kernel
theorem dX11_jacobi_72 : decode cX11_jacobi 72 = .ok (.aload_n 0, 1) := by decide +kernel
theorem dX11_jacobi_73 : decode cX11_jacobi 73 = .ok (.getfield 13, 3) := by decide +kernel
theorem dX11_jacobi_76 : decode cX11_jacobi 76 = .ok (.bipush 20, 2) := by decide +kernel
theorem dX11_jacobi_78 : decode cX11_jacobi 78 = .ok (.iaload, 1) := by decide +kernel
theorem dX11_jacobi_79 : decode cX11_jacobi 79 = .ok (.ifCond .le 139, 3) := by decide +kernel
theorem dX11_jacobi_82 : decode cX11_jacobi 82 = .ok (.iconst 0, 1) := by decide +kernel
theorem dX11_jacobi_83 : decode cX11_jacobi 83 = .ok (.istore 4, 2) := by decide +kernel
theorem dX11_jacobi_85 : decode cX11_jacobi 85 = .ok (.aload_n 0, 1) := by decide +kernel
theorem dX11_jacobi_86 : decode cX11_jacobi 86 = .ok (.bipush 20, 2) := by decide +kernel
theorem dX11_jacobi_88 : decode cX11_jacobi 88 = .ok (.iload 4, 2) := by decide +kernel
theorem dX11_jacobi_90 : decode cX11_jacobi 90 = .ok (.invokevirtual 100, 3) := by decide +kernel
theorem dX11_jacobi_93 : decode cX11_jacobi 93 = .ok (.ifCond .ne 9, 3) := by decide +kernel
theorem dX11_jacobi_96 : decode cX11_jacobi 96 = .ok (.iinc 4 1, 3) := by decide +kernel
theorem dX11_jacobi_99 : decode cX11_jacobi 99 = .ok (.goto (-14), 3) := by decide +kernel
theorem dX11_jacobi_102 : decode cX11_jacobi 102 = .ok (.aload_n 0, 1) := by decide +kernel
theorem dX11_jacobi_103 : decode cX11_jacobi 103 = .ok (.getfield 7, 3) := by decide +kernel
theorem dX11_jacobi_106 : decode cX11_jacobi 106 = .ok (.sipush 5460, 3) := by decide +kernel
theorem dX11_jacobi_109 : decode cX11_jacobi 109 = .ok (.iaload, 1) := by decide +kernel
theorem dX11_jacobi_110 : decode cX11_jacobi 110 = .ok (.bipush 7, 2) := by decide +kernel
theorem dX11_jacobi_112 : decode cX11_jacobi 112 = .ok (.iand, 1) := by decide +kernel
theorem dX11_jacobi_113 : decode cX11_jacobi 113 = .ok (.istore 5, 2) := by decide +kernel
theorem dX11_jacobi_115 : decode cX11_jacobi 115 = .ok (.iload 4, 2) := by decide +kernel
theorem dX11_jacobi_117 : decode cX11_jacobi 117 = .ok (.iconst 1, 1) := by decide +kernel
theorem dX11_jacobi_118 : decode cX11_jacobi 118 = .ok (.iand, 1) := by decide +kernel
theorem dX11_jacobi_119 : decode cX11_jacobi 119 = .ok (.iconst 1, 1) := by decide +kernel
theorem dX11_jacobi_120 : decode cX11_jacobi 120 = .ok (.if_icmp .ne 18, 3) := by decide +kernel
theorem dX11_jacobi_123 : decode cX11_jacobi 123 = .ok (.iload 5, 2) := by decide +kernel
theorem dX11_jacobi_125 : decode cX11_jacobi 125 = .ok (.iconst 3, 1) := by decide +kernel
theorem dX11_jacobi_126 : decode cX11_jacobi 126 = .ok (.if_icmp .eq 9, 3) := by decide +kernel
theorem dX11_jacobi_129 : decode cX11_jacobi 129 = .ok (.iload 5, 2) := by decide +kernel
theorem dX11_jacobi_131 : decode cX11_jacobi 131 = .ok (.iconst 5, 1) := by decide +kernel
theorem dX11_jacobi_132 : decode cX11_jacobi 132 = .ok (.if_icmp .ne 6, 3) := by decide +kernel
theorem dX11_jacobi_135 : decode cX11_jacobi 135 = .ok (.iload_n 3, 1) := by decide +kernel
theorem dX11_jacobi_136 : decode cX11_jacobi 136 = .ok (.ineg, 1) := by decide +kernel
theorem dX11_jacobi_137 : decode cX11_jacobi 137 = .ok (.istore_n 3, 1) := by decide +kernel
theorem dX11_jacobi_138 : decode cX11_jacobi 138 = .ok (.aload_n 0, 1) := by decide +kernel
theorem dX11_jacobi_139 : decode cX11_jacobi 139 = .ok (.bipush 19, 2) := by decide +kernel
theorem dX11_jacobi_141 : decode cX11_jacobi 141 = .ok (.bipush 20, 2) := by decide +kernel
theorem dX11_jacobi_143 : decode cX11_jacobi 143 = .ok (.iload 4, 2) := by decide +kernel
theorem dX11_jacobi_145 : decode cX11_jacobi 145 = .ok (.invokevirtual 104, 3) := by decide +kernel
theorem dX11_jacobi_148 : decode cX11_jacobi 148 = .ok (.aload_n 0, 1) := by decide +kernel
theorem dX11_jacobi_149 : decode cX11_jacobi 149 = .ok (.bipush 20, 2) := by decide +kernel
theorem dX11_jacobi_151 : decode cX11_jacobi 151 = .ok (.bipush 19, 2) := by decide +kernel
theorem dX11_jacobi_153 : decode cX11_jacobi 153 = .ok (.invokevirtual 45, 3) := by decide +kernel
theorem dX11_jacobi_156 : decode cX11_jacobi 156 = .ok (.aload_n 0, 1) := by decide +kernel
theorem dX11_jacobi_157 : decode cX11_jacobi 157 = .ok (.getfield 7, 3) := by decide +kernel
theorem dX11_jacobi_160 : decode cX11_jacobi 160 = .ok (.sipush 5200, 3) := by decide +kernel
theorem dX11_jacobi_163 : decode cX11_jacobi 163 = .ok (.iaload, 1) := by decide +kernel
theorem dX11_jacobi_164 : decode cX11_jacobi 164 = .ok (.iconst 3, 1) := by decide +kernel
theorem dX11_jacobi_165 : decode cX11_jacobi 165 = .ok (.iand, 1) := by decide +kernel
theorem dX11_jacobi_166 : decode cX11_jacobi 166 = .ok (.iconst 3, 1) := by decide +kernel
theorem dX11_jacobi_167 : decode cX11_jacobi 167 = .ok (.if_icmp .ne 20, 3) := by decide +kernel
theorem dX11_jacobi_170 : decode cX11_jacobi 170 = .ok (.aload_n 0, 1) := by decide +kernel
theorem dX11_jacobi_171 : decode cX11_jacobi 171 = .ok (.getfield 7, 3) := by decide +kernel
theorem dX11_jacobi_174 : decode cX11_jacobi 174 = .ok (.sipush 5460, 3) := by decide +kernel
theorem dX11_jacobi_177 : decode cX11_jacobi 177 = .ok (.iaload, 1) := by decide +kernel
theorem dX11_jacobi_178 : decode cX11_jacobi 178 = .ok (.iconst 3, 1) := by decide +kernel
theorem dX11_jacobi_179 : decode cX11_jacobi 179 = .ok (.iand, 1) := by decide +kernel
theorem dX11_jacobi_180 : decode cX11_jacobi 180 = .ok (.iconst 3, 1) := by decide +kernel
theorem dX11_jacobi_181 : decode cX11_jacobi 181 = .ok (.if_icmp .ne 6, 3) := by decide +kernel
theorem dX11_jacobi_184 : decode cX11_jacobi 184 = .ok (.iload_n 3, 1) := by decide +kernel
theorem dX11_jacobi_185 : decode cX11_jacobi 185 = .ok (.ineg, 1) := by decide +kernel
theorem dX11_jacobi_186 : decode cX11_jacobi 186 = .ok (.istore_n 3, 1) := by decide +kernel
theorem dX11_jacobi_187 : decode cX11_jacobi 187 = .ok (.aload_n 0, 1) := by decide +kernel
theorem dX11_jacobi_188 : decode cX11_jacobi 188 = .ok (.bipush 17, 2) := by decide +kernel
theorem dX11_jacobi_190 : decode cX11_jacobi 190 = .ok (.bipush 18, 2) := by decide +kernel
theorem dX11_jacobi_192 : decode cX11_jacobi 192 = .ok (.bipush 21, 2) := by decide +kernel
theorem dX11_jacobi_194 : decode cX11_jacobi 194 = .ok (.bipush 20, 2) := by decide +kernel
theorem dX11_jacobi_196 : decode cX11_jacobi 196 = .ok (.invokevirtual 68, 3) := by decide +kernel
theorem dX11_jacobi_199 : decode cX11_jacobi 199 = .ok (.aload_n 0, 1) := by decide +kernel
theorem dX11_jacobi_200 : decode cX11_jacobi 200 = .ok (.bipush 21, 2) := by decide +kernel
theorem dX11_jacobi_202 : decode cX11_jacobi 202 = .ok (.bipush 20, 2) := by decide +kernel
theorem dX11_jacobi_204 : decode cX11_jacobi 204 = .ok (.invokevirtual 45, 3) := by decide +kernel
theorem dX11_jacobi_207 : decode cX11_jacobi 207 = .ok (.aload_n 0, 1) := by decide +kernel
theorem dX11_jacobi_208 : decode cX11_jacobi 208 = .ok (.bipush 20, 2) := by decide +kernel
theorem dX11_jacobi_210 : decode cX11_jacobi 210 = .ok (.bipush 18, 2) := by decide +kernel
theorem dX11_jacobi_212 : decode cX11_jacobi 212 = .ok (.invokevirtual 45, 3) := by decide +kernel
theorem dX11_jacobi_215 : decode cX11_jacobi 215 = .ok (.goto (-143), 3) := by decide +kernel
theorem dX11_jacobi_218 : decode cX11_jacobi 218 = .ok (.aload_n 0, 1) := by decide +kernel
theorem dX11_jacobi_219 : decode cX11_jacobi 219 = .ok (.getfield 13, 3) := by decide +kernel
theorem dX11_jacobi_222 : decode cX11_jacobi 222 = .ok (.bipush 21, 2) := by decide +kernel
theorem dX11_jacobi_224 : decode cX11_jacobi 224 = .ok (.iaload, 1) := by decide +kernel
theorem dX11_jacobi_225 : decode cX11_jacobi 225 = .ok (.iconst 1, 1) := by decide +kernel
theorem dX11_jacobi_226 : decode cX11_jacobi 226 = .ok (.if_icmp .ne 19, 3) := by decide +kernel
theorem dX11_jacobi_229 : decode cX11_jacobi 229 = .ok (.aload_n 0, 1) := by decide +kernel
theorem dX11_jacobi_230 : decode cX11_jacobi 230 = .ok (.getfield 7, 3) := by decide +kernel
theorem dX11_jacobi_233 : decode cX11_jacobi 233 = .ok (.sipush 5460, 3) := by decide +kernel
theorem dX11_jacobi_236 : decode cX11_jacobi 236 = .ok (.iaload, 1) := by decide +kernel
theorem dX11_jacobi_237 : decode cX11_jacobi 237 = .ok (.iconst 1, 1) := by decide +kernel
theorem dX11_jacobi_238 : decode cX11_jacobi 238 = .ok (.if_icmp .ne 7, 3) := by decide +kernel
theorem dX11_jacobi_241 : decode cX11_jacobi 241 = .ok (.iload_n 3, 1) := by decide +kernel
theorem dX11_jacobi_242 : decode cX11_jacobi 242 = .ok (.goto 4, 3) := by decide +kernel
theorem dX11_jacobi_245 : decode cX11_jacobi 245 = .ok (.iconst 0, 1) := by decide +kernel
theorem dX11_jacobi_246 : decode cX11_jacobi 246 = .ok (.ireturn, 1) := by decide +kernel
theorem dX11_lacks_0 : decode cX11_lacks 0 = .ok (.aload_n 0, 1) := by decide +kernel
theorem dX11_lacks_1 : decode cX11_lacks 1 = .ok (.aload_n 0, 1) := by decide +kernel
theorem dX11_lacks_2 : decode cX11_lacks 2 = .ok (.iload_n 1, 1) := by decide +kernel
theorem dX11_lacks_3 : decode cX11_lacks 3 = .ok (.invokevirtual 78, 3) := by decide +kernel
theorem dX11_lacks_6 : decode cX11_lacks 6 = .ok (.ifCond .eq 7, 3) := by decide +kernel
theorem dX11_lacks_9 : decode cX11_lacks 9 = .ok (.iconst 1, 1) := by decide +kernel
theorem dX11_lacks_10 : decode cX11_lacks 10 = .ok (.goto 4, 3) := by decide +kernel
theorem dX11_lacks_13 : decode cX11_lacks 13 = .ok (.iconst 0, 1) := by decide +kernel
theorem dX11_lacks_14 : decode cX11_lacks 14 = .ok (.putfield 33, 3) := by decide +kernel
theorem dX11_lacks_17 : decode cX11_lacks 17 = .ok (.aload_n 0, 1) := by decide +kernel
theorem dX11_lacks_18 : decode cX11_lacks 18 = .ok (.getfield 33, 3) := by decide +kernel
theorem dX11_lacks_21 : decode cX11_lacks 21 = .ok (.iconst 1, 1) := by decide +kernel
theorem dX11_lacks_22 : decode cX11_lacks 22 = .ok (.if_icmp .ne 7, 3) := by decide +kernel
theorem dX11_lacks_25 : decode cX11_lacks 25 = .ok (.iconst 1, 1) := by decide +kernel
theorem dX11_lacks_26 : decode cX11_lacks 26 = .ok (.goto 4, 3) := by decide +kernel
theorem dX11_lacks_29 : decode cX11_lacks 29 = .ok (.iconst 0, 1) := by decide +kernel
theorem dX11_lacks_30 : decode cX11_lacks 30 = .ok (.ireturn, 1) := by decide +kernel
theorem dX11_sign_0 : decode cX11_sign 0 = .ok (.aload_n 0, 1) := by decide +kernel
theorem dX11_sign_1 : decode cX11_sign 1 = .ok (.iload_n 1, 1) := by decide +kernel
theorem dX11_sign_2 : decode cX11_sign 2 = .ok (.invokevirtual 153, 3) := by decide +kernel
theorem dX11_sign_5 : decode cX11_sign 5 = .ok (.ifCond .eq 7, 3) := by decide +kernel
theorem dX11_sign_8 : decode cX11_sign 8 = .ok (.iconst 0, 1) := by decide +kernel
theorem dX11_sign_9 : decode cX11_sign 9 = .ok (.goto 9, 3) := by decide +kernel
theorem dX11_sign_12 : decode cX11_sign 12 = .ok (.aload_n 0, 1) := by decide +kernel
theorem dX11_sign_13 : decode cX11_sign 13 = .ok (.getfield 16, 3) := by decide +kernel
theorem dX11_sign_16 : decode cX11_sign 16 = .ok (.iload_n 1, 1) := by decide +kernel
theorem dX11_sign_17 : decode cX11_sign 17 = .ok (.iaload, 1) := by decide +kernel
theorem dX11_sign_18 : decode cX11_sign 18 = .ok (.ireturn, 1) := by decide +kernel
theorem dX11_length_0 : decode cX11_length 0 = .ok (.aload_n 0, 1) := by decide +kernel
theorem dX11_length_1 : decode cX11_length 1 = .ok (.iload_n 1, 1) := by decide +kernel
theorem dX11_length_2 : decode cX11_length 2 = .ok (.invokevirtual 153, 3) := by decide +kernel
theorem dX11_length_5 : decode cX11_length 5 = .ok (.ifCond .eq 7, 3) := by decide +kernel
theorem dX11_length_8 : decode cX11_length 8 = .ok (.iconst 0, 1) := by decide +kernel
theorem dX11_length_9 : decode cX11_length 9 = .ok (.goto 13, 3) := by decide +kernel
theorem dX11_length_12 : decode cX11_length 12 = .ok (.aload_n 0, 1) := by decide +kernel
theorem dX11_length_13 : decode cX11_length 13 = .ok (.getfield 13, 3) := by decide +kernel
theorem dX11_length_16 : decode cX11_length 16 = .ok (.iload_n 1, 1) := by decide +kernel
theorem dX11_length_17 : decode cX11_length 17 = .ok (.iaload, 1) := by decide +kernel
theorem dX11_length_18 : decode cX11_length 18 = .ok (.iconst 1, 1) := by decide +kernel
theorem dX11_length_19 : decode cX11_length 19 = .ok (.iadd, 1) := by decide +kernel
theorem dX11_length_20 : decode cX11_length 20 = .ok (.iconst 2, 1) := by decide +kernel
theorem dX11_length_21 : decode cX11_length 21 = .ok (.idiv, 1) := by decide +kernel
theorem dX11_length_22 : decode cX11_length 22 = .ok (.ireturn, 1) := by decide +kernel
theorem dX11_limbAt_0 : decode cX11_limbAt 0 = .ok (.aload_n 0, 1) := by decide +kernel
theorem dX11_limbAt_1 : decode cX11_limbAt 1 = .ok (.iload_n 1, 1) := by decide +kernel
theorem dX11_limbAt_2 : decode cX11_limbAt 2 = .ok (.invokevirtual 153, 3) := by decide +kernel
theorem dX11_limbAt_5 : decode cX11_limbAt 5 = .ok (.ifCond .ne 13, 3) := by decide +kernel
theorem dX11_limbAt_8 : decode cX11_limbAt 8 = .ok (.iload_n 2, 1) := by decide +kernel
theorem dX11_limbAt_9 : decode cX11_limbAt 9 = .ok (.ifCond .lt 9, 3) := by decide +kernel
theorem dX11_limbAt_12 : decode cX11_limbAt 12 = .ok (.iload_n 2, 1) := by decide +kernel
theorem dX11_limbAt_13 : decode cX11_limbAt 13 = .ok (.bipush 100, 2) := by decide +kernel
theorem dX11_limbAt_15 : decode cX11_limbAt 15 = .ok (.if_icmp .le 5, 3) := by decide +kernel
theorem dX11_limbAt_18 : decode cX11_limbAt 18 = .ok (.iconst 0, 1) := by decide +kernel
theorem dX11_limbAt_19 : decode cX11_limbAt 19 = .ok (.ireturn, 1) := by decide +kernel
theorem dX11_limbAt_20 : decode cX11_limbAt 20 = .ok (.aload_n 0, 1) := by decide +kernel
theorem dX11_limbAt_21 : decode cX11_limbAt 21 = .ok (.iload_n 1, 1) := by decide +kernel
theorem dX11_limbAt_22 : decode cX11_limbAt 22 = .ok (.iconst 2, 1) := by decide +kernel
theorem dX11_limbAt_23 : decode cX11_limbAt 23 = .ok (.iload_n 2, 1) := by decide +kernel
theorem dX11_limbAt_24 : decode cX11_limbAt 24 = .ok (.imul, 1) := by decide +kernel
theorem dX11_limbAt_25 : decode cX11_limbAt 25 = .ok (.invokevirtual 36, 3) := by decide +kernel
theorem dX11_limbAt_28 : decode cX11_limbAt 28 = .ok (.aload_n 0, 1) := by decide +kernel
theorem dX11_limbAt_29 : decode cX11_limbAt 29 = .ok (.iload_n 1, 1) := by decide +kernel
theorem dX11_limbAt_30 : decode cX11_limbAt 30 = .ok (.iconst 2, 1) := by decide +kernel
theorem dX11_limbAt_31 : decode cX11_limbAt 31 = .ok (.iload_n 2, 1) := by decide +kernel
theorem dX11_limbAt_32 : decode cX11_limbAt 32 = .ok (.imul, 1) := by decide +kernel
theorem dX11_limbAt_33 : decode cX11_limbAt 33 = .ok (.iconst 1, 1) := by decide +kernel
theorem dX11_limbAt_34 : decode cX11_limbAt 34 = .ok (.iadd, 1) := by decide +kernel
theorem dX11_limbAt_35 : decode cX11_limbAt 35 = .ok (.invokevirtual 36, 3) := by decide +kernel
theorem dX11_limbAt_38 : decode cX11_limbAt 38 = .ok (.bipush 16, 2) := by decide +kernel
theorem dX11_limbAt_40 : decode cX11_limbAt 40 = .ok (.ishl, 1) := by decide +kernel
theorem dX11_limbAt_41 : decode cX11_limbAt 41 = .ok (.ior, 1) := by decide +kernel
theorem dX11_limbAt_42 : decode cX11_limbAt 42 = .ok (.ireturn, 1) := by decide +kernel
theorem dX11_feed_0 : decode cX11_feed 0 = .ok (.aload_n 0, 1) := by decide +kernel
theorem dX11_feed_1 : decode cX11_feed 1 = .ok (.iconst 0, 1) := by decide +kernel
theorem dX11_feed_2 : decode cX11_feed 2 = .ok (.putfield 33, 3) := by decide +kernel
theorem dX11_feed_5 : decode cX11_feed 5 = .ok (.aload_n 0, 1) := by decide +kernel
theorem dX11_feed_6 : decode cX11_feed 6 = .ok (.getfield 156, 3) := by decide +kernel
theorem dX11_feed_9 : decode cX11_feed 9 = .ok (.bipush 20, 2) := by decide +kernel
theorem dX11_feed_11 : decode cX11_feed 11 = .ok (.iadd, 1) := by decide +kernel
theorem dX11_feed_12 : decode cX11_feed 12 = .ok (.sipush 1000, 3) := by decide +kernel
theorem dX11_feed_15 : decode cX11_feed 15 = .ok (.if_icmp .le 5, 3) := by decide +kernel
theorem dX11_feed_18 : decode cX11_feed 18 = .ok (.iconst (-1), 1) := by decide +kernel
theorem dX11_feed_19 : decode cX11_feed 19 = .ok (.ireturn, 1) := by decide +kernel
theorem dX11_feed_20 : decode cX11_feed 20 = .ok (.aload_n 0, 1) := by decide +kernel
theorem dX11_feed_21 : decode cX11_feed 21 = .ok (.iload_n 1, 1) := by decide +kernel
theorem dX11_feed_22 : decode cX11_feed 22 = .ok (.invokevirtual 159, 3) := by decide +kernel
theorem dX11_feed_25 : decode cX11_feed 25 = .ok (.aload_n 0, 1) := by decide +kernel
theorem dX11_feed_26 : decode cX11_feed 26 = .ok (.iload_n 2, 1) := by decide +kernel
theorem dX11_feed_27 : decode cX11_feed 27 = .ok (.invokevirtual 159, 3) := by decide +kernel
theorem dX11_feed_30 : decode cX11_feed 30 = .ok (.aload_n 0, 1) := by decide +kernel
theorem dX11_feed_31 : decode cX11_feed 31 = .ok (.iload_n 3, 1) := by decide +kernel
theorem dX11_feed_32 : decode cX11_feed 32 = .ok (.invokevirtual 159, 3) := by decide +kernel
theorem dX11_feed_35 : decode cX11_feed 35 = .ok (.aload_n 0, 1) := by decide +kernel
theorem dX11_feed_36 : decode cX11_feed 36 = .ok (.iload 4, 2) := by decide +kernel
theorem dX11_feed_38 : decode cX11_feed 38 = .ok (.invokevirtual 159, 3) := by decide +kernel
theorem dX11_feed_41 : decode cX11_feed 41 = .ok (.aload_n 0, 1) := by decide +kernel
theorem dX11_feed_42 : decode cX11_feed 42 = .ok (.iload 5, 2) := by decide +kernel
theorem dX11_feed_44 : decode cX11_feed 44 = .ok (.invokevirtual 159, 3) := by decide +kernel
theorem dX11_feed_47 : decode cX11_feed 47 = .ok (.aload_n 0, 1) := by decide +kernel
theorem dX11_feed_48 : decode cX11_feed 48 = .ok (.getfield 156, 3) := by decide +kernel
theorem dX11_feed_51 : decode cX11_feed 51 = .ok (.ireturn, 1) := by decide +kernel
theorem dX11_four_0 : decode cX11_four 0 = .ok (.bipush 24, 2) := by decide +kernel
theorem dX11_four_2 : decode cX11_four 2 = .ok (.istore_n 2, 1) := by decide +kernel
theorem dX11_four_3 : decode cX11_four 3 = .ok (.iload_n 2, 1) := by decide +kernel
theorem dX11_four_4 : decode cX11_four 4 = .ok (.ifCond .lt 32, 3) := by decide +kernel
theorem dX11_four_7 : decode cX11_four 7 = .ok (.aload_n 0, 1) := by decide +kernel
theorem dX11_four_8 : decode cX11_four 8 = .ok (.getfield 19, 3) := by decide +kernel
theorem dX11_four_11 : decode cX11_four 11 = .ok (.aload_n 0, 1) := by decide +kernel
theorem dX11_four_12 : decode cX11_four 12 = .ok (.getfield 156, 3) := by decide +kernel
theorem dX11_four_15 : decode cX11_four 15 = .ok (.iload_n 1, 1) := by decide +kernel
theorem dX11_four_16 : decode cX11_four 16 = .ok (.iload_n 2, 1) := by decide +kernel
theorem dX11_four_17 : decode cX11_four 17 = .ok (.ishr, 1) := by decide +kernel
theorem dX11_four_18 : decode cX11_four 18 = .ok (.i2b, 1) := by decide +kernel
theorem dX11_four_19 : decode cX11_four 19 = .ok (.bastore, 1) := by decide +kernel
theorem dX11_four_20 : decode cX11_four 20 = .ok (.aload_n 0, 1) := by decide +kernel
theorem dX11_four_21 : decode cX11_four 21 = .ok (.dup, 1) := by decide +kernel
theorem dX11_four_22 : decode cX11_four 22 = .ok (.getfield 156, 3) := by decide +kernel
theorem dX11_four_25 : decode cX11_four 25 = .ok (.iconst 1, 1) := by decide +kernel
theorem dX11_four_26 : decode cX11_four 26 = .ok (.iadd, 1) := by decide +kernel
theorem dX11_four_27 : decode cX11_four 27 = .ok (.putfield 156, 3) := by decide +kernel
theorem dX11_four_30 : decode cX11_four 30 = .ok (.iinc 2 (-8), 3) := by decide +kernel
theorem dX11_four_33 : decode cX11_four 33 = .ok (.goto (-30), 3) := by decide +kernel
theorem dX11_four_36 : decode cX11_four 36 = .ok (.return_, 1) := by decide +kernel
theorem dX11_end_0 : decode cX11_end 0 = .ok (.aload_n 0, 1) := by decide +kernel
theorem dX11_end_1 : decode cX11_end 1 = .ok (.iconst 0, 1) := by decide +kernel
theorem dX11_end_2 : decode cX11_end 2 = .ok (.putfield 33, 3) := by decide +kernel
theorem dX11_end_5 : decode cX11_end 5 = .ok (.iload_n 1, 1) := by decide +kernel
theorem dX11_end_6 : decode cX11_end 6 = .ok (.ifCond .lt 11, 3) := by decide +kernel
theorem dX11_end_9 : decode cX11_end 9 = .ok (.iload_n 1, 1) := by decide +kernel
theorem dX11_end_10 : decode cX11_end 10 = .ok (.aload_n 0, 1) := by decide +kernel
theorem dX11_end_11 : decode cX11_end 11 = .ok (.getfield 156, 3) := by decide +kernel
theorem dX11_end_14 : decode cX11_end 14 = .ok (.if_icmp .le 5, 3) := by decide +kernel
theorem dX11_end_17 : decode cX11_end 17 = .ok (.iconst 0, 1) := by decide +kernel
theorem dX11_end_18 : decode cX11_end 18 = .ok (.ireturn, 1) := by decide +kernel
theorem dX11_end_19 : decode cX11_end 19 = .ok (.aload_n 0, 1) := by decide +kernel
theorem dX11_end_20 : decode cX11_end 20 = .ok (.iload_n 1, 1) := by decide +kernel
theorem dX11_end_21 : decode cX11_end 21 = .ok (.putfield 156, 3) := by decide +kernel
theorem dX11_end_24 : decode cX11_end 24 = .ok (.iconst 1, 1) := by decide +kernel
theorem dX11_end_25 : decode cX11_end 25 = .ok (.ireturn, 1) := by decide +kernel
theorem dX11_read_0 : decode cX11_read 0 = .ok (.aload_n 0, 1) := by decide +kernel
theorem dX11_read_1 : decode cX11_read 1 = .ok (.iconst 0, 1) := by decide +kernel
theorem dX11_read_2 : decode cX11_read 2 = .ok (.putfield 33, 3) := by decide +kernel
theorem dX11_read_5 : decode cX11_read 5 = .ok (.aload_n 0, 1) := by decide +kernel
theorem dX11_read_6 : decode cX11_read 6 = .ok (.iload_n 1, 1) := by decide +kernel
theorem dX11_read_7 : decode cX11_read 7 = .ok (.invokevirtual 78, 3) := by decide +kernel
theorem dX11_read_10 : decode cX11_read 10 = .ok (.ifCond .eq 5, 3) := by decide +kernel
theorem dX11_read_13 : decode cX11_read 13 = .ok (.iconst 3, 1) := by decide +kernel
theorem dX11_read_14 : decode cX11_read 14 = .ok (.ireturn, 1) := by decide +kernel
theorem dX11_read_15 : decode cX11_read 15 = .ok (.aload_n 0, 1) := by decide +kernel
theorem dX11_read_16 : decode cX11_read 16 = .ok (.getfield 156, 3) := by decide +kernel
theorem dX11_read_19 : decode cX11_read 19 = .ok (.istore_n 2, 1) := by decide +kernel
theorem dX11_read_20 : decode cX11_read 20 = .ok (.aload_n 0, 1) := by decide +kernel
theorem dX11_read_21 : decode cX11_read 21 = .ok (.iconst 0, 1) := by decide +kernel
theorem dX11_read_22 : decode cX11_read 22 = .ok (.putfield 156, 3) := by decide +kernel
theorem dX11_read_25 : decode cX11_read 25 = .ok (.iload_n 2, 1) := by decide +kernel
theorem dX11_read_26 : decode cX11_read 26 = .ok (.ifCond .le 18, 3) := by decide +kernel
theorem dX11_read_29 : decode cX11_read 29 = .ok (.aload_n 0, 1) := by decide +kernel
theorem dX11_read_30 : decode cX11_read 30 = .ok (.getfield 19, 3) := by decide +kernel
theorem dX11_read_33 : decode cX11_read 33 = .ok (.iconst 0, 1) := by decide +kernel
theorem dX11_read_34 : decode cX11_read 34 = .ok (.baload, 1) := by decide +kernel
theorem dX11_read_35 : decode cX11_read 35 = .ok (.bipush 45, 2) := by decide +kernel
theorem dX11_read_37 : decode cX11_read 37 = .ok (.if_icmp .ne 7, 3) := by decide +kernel
theorem dX11_read_40 : decode cX11_read 40 = .ok (.iconst 1, 1) := by decide +kernel
theorem dX11_read_41 : decode cX11_read 41 = .ok (.goto 4, 3) := by decide +kernel
theorem dX11_read_44 : decode cX11_read 44 = .ok (.iconst 0, 1) := by decide +kernel
theorem dX11_read_45 : decode cX11_read 45 = .ok (.istore_n 3, 1) := by decide +kernel
theorem dX11_read_46 : decode cX11_read 46 = .ok (.iload_n 3, 1) := by decide +kernel
theorem dX11_read_47 : decode cX11_read 47 = .ok (.iload_n 2, 1) := by decide +kernel
theorem dX11_read_48 : decode cX11_read 48 = .ok (.if_icmp .ne 5, 3) := by decide +kernel
theorem dX11_read_51 : decode cX11_read 51 = .ok (.iconst 2, 1) := by decide +kernel
theorem dX11_read_52 : decode cX11_read 52 = .ok (.ireturn, 1) := by decide +kernel
theorem dX11_read_53 : decode cX11_read 53 = .ok (.iload_n 3, 1) := by decide +kernel
theorem dX11_read_54 : decode cX11_read 54 = .ok (.istore 4, 2) := by decide +kernel
theorem dX11_read_56 : decode cX11_read 56 = .ok (.iload 4, 2) := by decide +kernel
theorem dX11_read_58 : decode cX11_read 58 = .ok (.iload_n 2, 1) := by decide +kernel
theorem dX11_read_59 : decode cX11_read 59 = .ok (.if_icmp .ge 35, 3) := by decide +kernel
theorem dX11_read_62 : decode cX11_read 62 = .ok (.aload_n 0, 1) := by decide +kernel
theorem dX11_read_63 : decode cX11_read 63 = .ok (.getfield 19, 3) := by decide +kernel
theorem dX11_read_66 : decode cX11_read 66 = .ok (.iload 4, 2) := by decide +kernel
theorem dX11_read_68 : decode cX11_read 68 = .ok (.baload, 1) := by decide +kernel
theorem dX11_read_69 : decode cX11_read 69 = .ok (.bipush 48, 2) := by decide +kernel
theorem dX11_read_71 : decode cX11_read 71 = .ok (.if_icmp .lt 15, 3) := by decide +kernel
theorem dX11_read_74 : decode cX11_read 74 = .ok (.aload_n 0, 1) := by decide +kernel
theorem dX11_read_75 : decode cX11_read 75 = .ok (.getfield 19, 3) := by decide +kernel
theorem dX11_read_78 : decode cX11_read 78 = .ok (.iload 4, 2) := by decide +kernel
theorem dX11_read_80 : decode cX11_read 80 = .ok (.baload, 1) := by decide +kernel
theorem dX11_read_81 : decode cX11_read 81 = .ok (.bipush 57, 2) := by decide +kernel
theorem dX11_read_83 : decode cX11_read 83 = .ok (.if_icmp .le 5, 3) := by decide +kernel
theorem dX11_read_86 : decode cX11_read 86 = .ok (.iconst 2, 1) := by decide +kernel
theorem dX11_read_87 : decode cX11_read 87 = .ok (.ireturn, 1) := by decide +kernel
theorem dX11_read_88 : decode cX11_read 88 = .ok (.iinc 4 1, 3) := by decide +kernel
theorem dX11_read_91 : decode cX11_read 91 = .ok (.goto (-35), 3) := by decide +kernel
theorem dX11_read_94 : decode cX11_read 94 = .ok (.aload_n 0, 1) := by decide +kernel
theorem dX11_read_95 : decode cX11_read 95 = .ok (.bipush 19, 2) := by decide +kernel
theorem dX11_read_97 : decode cX11_read 97 = .ok (.iconst 0, 1) := by decide +kernel
theorem dX11_read_98 : decode cX11_read 98 = .ok (.invokevirtual 56, 3) := by decide +kernel
theorem dX11_read_101 : decode cX11_read 101 = .ok (.iconst 0, 1) := by decide +kernel
theorem dX11_read_102 : decode cX11_read 102 = .ok (.istore 4, 2) := by decide +kernel
theorem dX11_read_104 : decode cX11_read 104 = .ok (.iload_n 3, 1) := by decide +kernel
theorem dX11_read_105 : decode cX11_read 105 = .ok (.istore 5, 2) := by decide +kernel
theorem dX11_read_107 : decode cX11_read 107 = .ok (.iload 5, 2) := by decide +kernel
theorem dX11_read_109 : decode cX11_read 109 = .ok (.iload_n 2, 1) := by decide +kernel
theorem dX11_read_110 : decode cX11_read 110 = .ok (.if_icmp .ge 133, 3) := by decide +kernel
theorem dX11_read_113 : decode cX11_read 113 = .ok (.iload 4, 2) := by decide +kernel
theorem dX11_read_115 : decode cX11_read 115 = .ok (.ifCond .ne 128, 3) := by decide +kernel
theorem dX11_read_118 : decode cX11_read 118 = .ok (.aload_n 0, 1) := by decide +kernel
theorem dX11_read_119 : decode cX11_read 119 = .ok (.getfield 19, 3) := by decide +kernel
theorem dX11_read_122 : decode cX11_read 122 = .ok (.iload 5, 2) := by decide +kernel
theorem dX11_read_124 : decode cX11_read 124 = .ok (.baload, 1) := by decide +kernel
theorem dX11_read_125 : decode cX11_read 125 = .ok (.bipush 48, 2) := by decide +kernel
theorem dX11_read_127 : decode cX11_read 127 = .ok (.isub, 1) := by decide +kernel
theorem dX11_read_128 : decode cX11_read 128 = .ok (.istore 6, 2) := by decide +kernel
theorem dX11_read_130 : decode cX11_read 130 = .ok (.aload_n 0, 1) := by decide +kernel
theorem dX11_read_131 : decode cX11_read 131 = .ok (.getfield 13, 3) := by decide +kernel
theorem dX11_read_134 : decode cX11_read 134 = .ok (.bipush 19, 2) := by decide +kernel
theorem dX11_read_136 : decode cX11_read 136 = .ok (.iaload, 1) := by decide +kernel
theorem dX11_read_137 : decode cX11_read 137 = .ok (.istore 7, 2) := by decide +kernel
theorem dX11_read_139 : decode cX11_read 139 = .ok (.iconst 0, 1) := by decide +kernel
theorem dX11_read_140 : decode cX11_read 140 = .ok (.istore 8, 2) := by decide +kernel
theorem dX11_read_142 : decode cX11_read 142 = .ok (.iload 8, 2) := by decide +kernel
theorem dX11_read_144 : decode cX11_read 144 = .ok (.iload 7, 2) := by decide +kernel
theorem dX11_read_146 : decode cX11_read 146 = .ok (.if_icmp .ge 51, 3) := by decide +kernel
theorem dX11_read_149 : decode cX11_read 149 = .ok (.iload 6, 2) := by decide +kernel
theorem dX11_read_151 : decode cX11_read 151 = .ok (.bipush 10, 2) := by decide +kernel
theorem dX11_read_153 : decode cX11_read 153 = .ok (.aload_n 0, 1) := by decide +kernel
theorem dX11_read_154 : decode cX11_read 154 = .ok (.getfield 7, 3) := by decide +kernel
theorem dX11_read_157 : decode cX11_read 157 = .ok (.sipush 4940, 3) := by decide +kernel
theorem dX11_read_160 : decode cX11_read 160 = .ok (.iload 8, 2) := by decide +kernel
theorem dX11_read_162 : decode cX11_read 162 = .ok (.iadd, 1) := by decide +kernel
theorem dX11_read_163 : decode cX11_read 163 = .ok (.iaload, 1) := by decide +kernel
theorem dX11_read_164 : decode cX11_read 164 = .ok (.imul, 1) := by decide +kernel
theorem dX11_read_165 : decode cX11_read 165 = .ok (.iadd, 1) := by decide +kernel
theorem dX11_read_166 : decode cX11_read 166 = .ok (.istore 6, 2) := by decide +kernel
theorem dX11_read_168 : decode cX11_read 168 = .ok (.aload_n 0, 1) := by decide +kernel
theorem dX11_read_169 : decode cX11_read 169 = .ok (.getfield 7, 3) := by decide +kernel
theorem dX11_read_172 : decode cX11_read 172 = .ok (.sipush 4940, 3) := by decide +kernel
theorem dX11_read_175 : decode cX11_read 175 = .ok (.iload 8, 2) := by decide +kernel
theorem dX11_read_177 : decode cX11_read 177 = .ok (.iadd, 1) := by decide +kernel
theorem dX11_read_178 : decode cX11_read 178 = .ok (.iload 6, 2) := by decide +kernel
theorem dX11_read_180 : decode cX11_read 180 = .ok (.ldc 40, 2) := by decide +kernel
theorem dX11_read_182 : decode cX11_read 182 = .ok (.iand, 1) := by decide +kernel
theorem dX11_read_183 : decode cX11_read 183 = .ok (.iastore, 1) := by decide +kernel
theorem dX11_read_184 : decode cX11_read 184 = .ok (.iload 6, 2) := by decide +kernel
theorem dX11_read_186 : decode cX11_read 186 = .ok (.bipush 16, 2) := by decide +kernel
theorem dX11_read_188 : decode cX11_read 188 = .ok (.ishr, 1) := by decide +kernel
theorem dX11_read_189 : decode cX11_read 189 = .ok (.istore 6, 2) := by decide +kernel
theorem dX11_read_191 : decode cX11_read 191 = .ok (.iinc 8 1, 3) := by decide +kernel
theorem dX11_read_194 : decode cX11_read 194 = .ok (.goto (-52), 3) := by decide +kernel
theorem dX11_read_197 : decode cX11_read 197 = .ok (.aload_n 0, 1) := by decide +kernel
theorem dX11_read_198 : decode cX11_read 198 = .ok (.getfield 7, 3) := by decide +kernel
theorem dX11_read_201 : decode cX11_read 201 = .ok (.sipush 4940, 3) := by decide +kernel
theorem dX11_read_204 : decode cX11_read 204 = .ok (.iload 7, 2) := by decide +kernel
theorem dX11_read_206 : decode cX11_read 206 = .ok (.iadd, 1) := by decide +kernel
theorem dX11_read_207 : decode cX11_read 207 = .ok (.iload 6, 2) := by decide +kernel
theorem dX11_read_209 : decode cX11_read 209 = .ok (.iastore, 1) := by decide +kernel
theorem dX11_read_210 : decode cX11_read 210 = .ok (.aload_n 0, 1) := by decide +kernel
theorem dX11_read_211 : decode cX11_read 211 = .ok (.bipush 19, 2) := by decide +kernel
theorem dX11_read_213 : decode cX11_read 213 = .ok (.iload 7, 2) := by decide +kernel
theorem dX11_read_215 : decode cX11_read 215 = .ok (.iconst 1, 1) := by decide +kernel
theorem dX11_read_216 : decode cX11_read 216 = .ok (.iadd, 1) := by decide +kernel
theorem dX11_read_217 : decode cX11_read 217 = .ok (.iconst 1, 1) := by decide +kernel
theorem dX11_read_218 : decode cX11_read 218 = .ok (.invokevirtual 41, 3) := by decide +kernel
theorem dX11_read_221 : decode cX11_read 221 = .ok (.aload_n 0, 1) := by decide +kernel
theorem dX11_read_222 : decode cX11_read 222 = .ok (.bipush 19, 2) := by decide +kernel
theorem dX11_read_224 : decode cX11_read 224 = .ok (.invokevirtual 74, 3) := by decide +kernel
theorem dX11_read_227 : decode cX11_read 227 = .ok (.ifCond .ne 7, 3) := by decide +kernel
theorem dX11_read_230 : decode cX11_read 230 = .ok (.iconst 1, 1) := by decide +kernel
theorem dX11_read_231 : decode cX11_read 231 = .ok (.goto 4, 3) := by decide +kernel
theorem dX11_read_234 : decode cX11_read 234 = .ok (.iconst 0, 1) := by decide +kernel
theorem dX11_read_235 : decode cX11_read 235 = .ok (.istore 4, 2) := by decide +kernel
theorem dX11_read_237 : decode cX11_read 237 = .ok (.iinc 5 1, 3) := by decide +kernel
theorem dX11_read_240 : decode cX11_read 240 = .ok (.goto (-133), 3) := by decide +kernel
theorem dX11_read_243 : decode cX11_read 243 = .ok (.iload 4, 2) := by decide +kernel
theorem dX11_read_245 : decode cX11_read 245 = .ok (.ifCond .eq 5, 3) := by decide +kernel
theorem dX11_read_248 : decode cX11_read 248 = .ok (.iconst 1, 1) := by decide +kernel
theorem dX11_read_249 : decode cX11_read 249 = .ok (.ireturn, 1) := by decide +kernel
theorem dX11_read_250 : decode cX11_read 250 = .ok (.aload_n 0, 1) := by decide +kernel
theorem dX11_read_251 : decode cX11_read 251 = .ok (.iload_n 1, 1) := by decide +kernel
theorem dX11_read_252 : decode cX11_read 252 = .ok (.bipush 19, 2) := by decide +kernel
theorem dX11_read_254 : decode cX11_read 254 = .ok (.invokevirtual 45, 3) := by decide +kernel
theorem dX11_read_257 : decode cX11_read 257 = .ok (.iload_n 3, 1) := by decide +kernel
theorem dX11_read_258 : decode cX11_read 258 = .ok (.iconst 1, 1) := by decide +kernel
theorem dX11_read_259 : decode cX11_read 259 = .ok (.if_icmp .ne 16, 3) := by decide +kernel
theorem dX11_read_262 : decode cX11_read 262 = .ok (.aload_n 0, 1) := by decide +kernel
theorem dX11_read_263 : decode cX11_read 263 = .ok (.getfield 16, 3) := by decide +kernel
theorem dX11_read_266 : decode cX11_read 266 = .ok (.iload_n 1, 1) := by decide +kernel
theorem dX11_read_267 : decode cX11_read 267 = .ok (.aload_n 0, 1) := by decide +kernel
theorem dX11_read_268 : decode cX11_read 268 = .ok (.getfield 16, 3) := by decide +kernel
theorem dX11_read_271 : decode cX11_read 271 = .ok (.iload_n 1, 1) := by decide +kernel
theorem dX11_read_272 : decode cX11_read 272 = .ok (.iaload, 1) := by decide +kernel
theorem dX11_read_273 : decode cX11_read 273 = .ok (.ineg, 1) := by decide +kernel
theorem dX11_read_274 : decode cX11_read 274 = .ok (.iastore, 1) := by decide +kernel
theorem dX11_read_275 : decode cX11_read 275 = .ok (.iconst 0, 1) := by decide +kernel
theorem dX11_read_276 : decode cX11_read 276 = .ok (.ireturn, 1) := by decide +kernel
theorem dX11_write_0 : decode cX11_write 0 = .ok (.aload_n 0, 1) := by decide +kernel
theorem dX11_write_1 : decode cX11_write 1 = .ok (.iload_n 1, 1) := by decide +kernel
theorem dX11_write_2 : decode cX11_write 2 = .ok (.invokevirtual 153, 3) := by decide +kernel
theorem dX11_write_5 : decode cX11_write 5 = .ok (.ifCond .eq 5, 3) := by decide +kernel
theorem dX11_write_8 : decode cX11_write 8 = .ok (.iconst 0, 1) := by decide +kernel
theorem dX11_write_9 : decode cX11_write 9 = .ok (.ireturn, 1) := by decide +kernel
theorem dX11_write_10 : decode cX11_write 10 = .ok (.aload_n 0, 1) := by decide +kernel
theorem dX11_write_11 : decode cX11_write 11 = .ok (.bipush 19, 2) := by decide +kernel
theorem dX11_write_13 : decode cX11_write 13 = .ok (.iload_n 1, 1) := by decide +kernel
theorem dX11_write_14 : decode cX11_write 14 = .ok (.invokevirtual 45, 3) := by decide +kernel
theorem dX11_write_17 : decode cX11_write 17 = .ok (.iconst 0, 1) := by decide +kernel
theorem dX11_write_18 : decode cX11_write 18 = .ok (.istore_n 2, 1) := by decide +kernel
theorem dX11_write_19 : decode cX11_write 19 = .ok (.iconst 0, 1) := by decide +kernel
theorem dX11_write_20 : decode cX11_write 20 = .ok (.istore_n 3, 1) := by decide +kernel
theorem dX11_write_21 : decode cX11_write 21 = .ok (.aload_n 0, 1) := by decide +kernel
theorem dX11_write_22 : decode cX11_write 22 = .ok (.getfield 13, 3) := by decide +kernel
theorem dX11_write_25 : decode cX11_write 25 = .ok (.bipush 19, 2) := by decide +kernel
theorem dX11_write_27 : decode cX11_write 27 = .ok (.iaload, 1) := by decide +kernel
theorem dX11_write_28 : decode cX11_write 28 = .ok (.iconst 1, 1) := by decide +kernel
theorem dX11_write_29 : decode cX11_write 29 = .ok (.isub, 1) := by decide +kernel
theorem dX11_write_30 : decode cX11_write 30 = .ok (.istore 4, 2) := by decide +kernel
theorem dX11_write_32 : decode cX11_write 32 = .ok (.iload 4, 2) := by decide +kernel
theorem dX11_write_34 : decode cX11_write 34 = .ok (.ifCond .lt 46, 3) := by decide +kernel
theorem dX11_write_37 : decode cX11_write 37 = .ok (.iload_n 3, 1) := by decide +kernel
theorem dX11_write_38 : decode cX11_write 38 = .ok (.bipush 16, 2) := by decide +kernel
theorem dX11_write_40 : decode cX11_write 40 = .ok (.ishl, 1) := by decide +kernel
theorem dX11_write_41 : decode cX11_write 41 = .ok (.aload_n 0, 1) := by decide +kernel
theorem dX11_write_42 : decode cX11_write 42 = .ok (.getfield 7, 3) := by decide +kernel
theorem dX11_write_45 : decode cX11_write 45 = .ok (.sipush 4940, 3) := by decide +kernel
theorem dX11_write_48 : decode cX11_write 48 = .ok (.iload 4, 2) := by decide +kernel
theorem dX11_write_50 : decode cX11_write 50 = .ok (.iadd, 1) := by decide +kernel
theorem dX11_write_51 : decode cX11_write 51 = .ok (.iaload, 1) := by decide +kernel
theorem dX11_write_52 : decode cX11_write 52 = .ok (.ior, 1) := by decide +kernel
theorem dX11_write_53 : decode cX11_write 53 = .ok (.istore_n 3, 1) := by decide +kernel
theorem dX11_write_54 : decode cX11_write 54 = .ok (.aload_n 0, 1) := by decide +kernel
theorem dX11_write_55 : decode cX11_write 55 = .ok (.getfield 7, 3) := by decide +kernel
theorem dX11_write_58 : decode cX11_write 58 = .ok (.sipush 4940, 3) := by decide +kernel
theorem dX11_write_61 : decode cX11_write 61 = .ok (.iload 4, 2) := by decide +kernel
theorem dX11_write_63 : decode cX11_write 63 = .ok (.iadd, 1) := by decide +kernel
theorem dX11_write_64 : decode cX11_write 64 = .ok (.iload_n 3, 1) := by decide +kernel
theorem dX11_write_65 : decode cX11_write 65 = .ok (.bipush 10, 2) := by decide +kernel
theorem dX11_write_67 : decode cX11_write 67 = .ok (.idiv, 1) := by decide +kernel
theorem dX11_write_68 : decode cX11_write 68 = .ok (.iastore, 1) := by decide +kernel
theorem dX11_write_69 : decode cX11_write 69 = .ok (.iload_n 3, 1) := by decide +kernel
theorem dX11_write_70 : decode cX11_write 70 = .ok (.bipush 10, 2) := by decide +kernel
theorem dX11_write_72 : decode cX11_write 72 = .ok (.irem, 1) := by decide +kernel
theorem dX11_write_73 : decode cX11_write 73 = .ok (.istore_n 3, 1) := by decide +kernel
theorem dX11_write_74 : decode cX11_write 74 = .ok (.iinc 4 (-1), 3) := by decide +kernel
theorem dX11_write_77 : decode cX11_write 77 = .ok (.goto (-45), 3) := by decide +kernel
theorem dX11_write_80 : decode cX11_write 80 = .ok (.aload_n 0, 1) := by decide +kernel
theorem dX11_write_81 : decode cX11_write 81 = .ok (.bipush 19, 2) := by decide +kernel
theorem dX11_write_83 : decode cX11_write 83 = .ok (.aload_n 0, 1) := by decide +kernel
theorem dX11_write_84 : decode cX11_write 84 = .ok (.getfield 13, 3) := by decide +kernel
theorem dX11_write_87 : decode cX11_write 87 = .ok (.bipush 19, 2) := by decide +kernel
theorem dX11_write_89 : decode cX11_write 89 = .ok (.iaload, 1) := by decide +kernel
theorem dX11_write_90 : decode cX11_write 90 = .ok (.iconst 1, 1) := by decide +kernel
theorem dX11_write_91 : decode cX11_write 91 = .ok (.invokevirtual 41, 3) := by decide +kernel
theorem dX11_write_94 : decode cX11_write 94 = .ok (.aload_n 0, 1) := by decide +kernel
theorem dX11_write_95 : decode cX11_write 95 = .ok (.getfield 23, 3) := by decide +kernel
theorem dX11_write_98 : decode cX11_write 98 = .ok (.iload_n 2, 1) := by decide +kernel
theorem dX11_write_99 : decode cX11_write 99 = .ok (.bipush 48, 2) := by decide +kernel
theorem dX11_write_101 : decode cX11_write 101 = .ok (.iload_n 3, 1) := by decide +kernel
theorem dX11_write_102 : decode cX11_write 102 = .ok (.iadd, 1) := by decide +kernel
theorem dX11_write_103 : decode cX11_write 103 = .ok (.i2b, 1) := by decide +kernel
theorem dX11_write_104 : decode cX11_write 104 = .ok (.bastore, 1) := by decide +kernel
theorem dX11_write_105 : decode cX11_write 105 = .ok (.iinc 2 1, 3) := by decide +kernel
theorem dX11_write_108 : decode cX11_write 108 = .ok (.aload_n 0, 1) := by decide +kernel
theorem dX11_write_109 : decode cX11_write 109 = .ok (.getfield 13, 3) := by decide +kernel
theorem dX11_write_112 : decode cX11_write 112 = .ok (.bipush 19, 2) := by decide +kernel
theorem dX11_write_114 : decode cX11_write 114 = .ok (.iaload, 1) := by decide +kernel
theorem dX11_write_115 : decode cX11_write 115 = .ok (.ifCond .gt (-96), 3) := by decide +kernel
theorem dX11_write_118 : decode cX11_write 118 = .ok (.aload_n 0, 1) := by decide +kernel
theorem dX11_write_119 : decode cX11_write 119 = .ok (.getfield 16, 3) := by decide +kernel
theorem dX11_write_122 : decode cX11_write 122 = .ok (.iload_n 1, 1) := by decide +kernel
theorem dX11_write_123 : decode cX11_write 123 = .ok (.iaload, 1) := by decide +kernel
theorem dX11_write_124 : decode cX11_write 124 = .ok (.ifCond .ge 14, 3) := by decide +kernel
theorem dX11_write_127 : decode cX11_write 127 = .ok (.aload_n 0, 1) := by decide +kernel
theorem dX11_write_128 : decode cX11_write 128 = .ok (.getfield 23, 3) := by decide +kernel
theorem dX11_write_131 : decode cX11_write 131 = .ok (.iload_n 2, 1) := by decide +kernel
theorem dX11_write_132 : decode cX11_write 132 = .ok (.bipush 45, 2) := by decide +kernel
theorem dX11_write_134 : decode cX11_write 134 = .ok (.bastore, 1) := by decide +kernel
theorem dX11_write_135 : decode cX11_write 135 = .ok (.iinc 2 1, 3) := by decide +kernel
theorem dX11_write_138 : decode cX11_write 138 = .ok (.iconst 0, 1) := by decide +kernel
theorem dX11_write_139 : decode cX11_write 139 = .ok (.istore_n 3, 1) := by decide +kernel
theorem dX11_write_140 : decode cX11_write 140 = .ok (.iload_n 2, 1) := by decide +kernel
theorem dX11_write_141 : decode cX11_write 141 = .ok (.iconst 1, 1) := by decide +kernel
theorem dX11_write_142 : decode cX11_write 142 = .ok (.isub, 1) := by decide +kernel
theorem dX11_write_143 : decode cX11_write 143 = .ok (.istore 4, 2) := by decide +kernel
theorem dX11_write_145 : decode cX11_write 145 = .ok (.iload_n 3, 1) := by decide +kernel
theorem dX11_write_146 : decode cX11_write 146 = .ok (.iload 4, 2) := by decide +kernel
theorem dX11_write_148 : decode cX11_write 148 = .ok (.if_icmp .ge 42, 3) := by decide +kernel
theorem dX11_write_151 : decode cX11_write 151 = .ok (.aload_n 0, 1) := by decide +kernel
theorem dX11_write_152 : decode cX11_write 152 = .ok (.getfield 23, 3) := by decide +kernel
theorem dX11_write_155 : decode cX11_write 155 = .ok (.iload_n 3, 1) := by decide +kernel
theorem dX11_write_156 : decode cX11_write 156 = .ok (.baload, 1) := by decide +kernel
theorem dX11_write_157 : decode cX11_write 157 = .ok (.istore 5, 2) := by decide +kernel
theorem dX11_write_159 : decode cX11_write 159 = .ok (.aload_n 0, 1) := by decide +kernel
theorem dX11_write_160 : decode cX11_write 160 = .ok (.getfield 23, 3) := by decide +kernel
theorem dX11_write_163 : decode cX11_write 163 = .ok (.iload_n 3, 1) := by decide +kernel
theorem dX11_write_164 : decode cX11_write 164 = .ok (.aload_n 0, 1) := by decide +kernel
theorem dX11_write_165 : decode cX11_write 165 = .ok (.getfield 23, 3) := by decide +kernel
theorem dX11_write_168 : decode cX11_write 168 = .ok (.iload 4, 2) := by decide +kernel
theorem dX11_write_170 : decode cX11_write 170 = .ok (.baload, 1) := by decide +kernel
theorem dX11_write_171 : decode cX11_write 171 = .ok (.bastore, 1) := by decide +kernel
theorem dX11_write_172 : decode cX11_write 172 = .ok (.aload_n 0, 1) := by decide +kernel
theorem dX11_write_173 : decode cX11_write 173 = .ok (.getfield 23, 3) := by decide +kernel
theorem dX11_write_176 : decode cX11_write 176 = .ok (.iload 4, 2) := by decide +kernel
theorem dX11_write_178 : decode cX11_write 178 = .ok (.iload 5, 2) := by decide +kernel
theorem dX11_write_180 : decode cX11_write 180 = .ok (.bastore, 1) := by decide +kernel
theorem dX11_write_181 : decode cX11_write 181 = .ok (.iinc 3 1, 3) := by decide +kernel
theorem dX11_write_184 : decode cX11_write 184 = .ok (.iinc 4 (-1), 3) := by decide +kernel
theorem dX11_write_187 : decode cX11_write 187 = .ok (.goto (-42), 3) := by decide +kernel
theorem dX11_write_190 : decode cX11_write 190 = .ok (.aload_n 0, 1) := by decide +kernel
theorem dX11_write_191 : decode cX11_write 191 = .ok (.iload_n 2, 1) := by decide +kernel
theorem dX11_write_192 : decode cX11_write 192 = .ok (.putfield 162, 3) := by decide +kernel
theorem dX11_write_195 : decode cX11_write 195 = .ok (.iload_n 2, 1) := by decide +kernel
theorem dX11_write_196 : decode cX11_write 196 = .ok (.ireturn, 1) := by decide +kernel
theorem dX11_octet_0 : decode cX11_octet 0 = .ok (.aload_n 0, 1) := by decide +kernel
theorem dX11_octet_1 : decode cX11_octet 1 = .ok (.iconst 0, 1) := by decide +kernel
theorem dX11_octet_2 : decode cX11_octet 2 = .ok (.putfield 33, 3) := by decide +kernel
theorem dX11_octet_5 : decode cX11_octet 5 = .ok (.iload_n 1, 1) := by decide +kernel
theorem dX11_octet_6 : decode cX11_octet 6 = .ok (.ifCond .lt 20, 3) := by decide +kernel
theorem dX11_octet_9 : decode cX11_octet 9 = .ok (.iload_n 1, 1) := by decide +kernel
theorem dX11_octet_10 : decode cX11_octet 10 = .ok (.aload_n 0, 1) := by decide +kernel
theorem dX11_octet_11 : decode cX11_octet 11 = .ok (.getfield 162, 3) := by decide +kernel
theorem dX11_octet_14 : decode cX11_octet 14 = .ok (.if_icmp .ge 12, 3) := by decide +kernel
theorem dX11_octet_17 : decode cX11_octet 17 = .ok (.aload_n 0, 1) := by decide +kernel
theorem dX11_octet_18 : decode cX11_octet 18 = .ok (.getfield 23, 3) := by decide +kernel
theorem dX11_octet_21 : decode cX11_octet 21 = .ok (.iload_n 1, 1) := by decide +kernel
theorem dX11_octet_22 : decode cX11_octet 22 = .ok (.baload, 1) := by decide +kernel
theorem dX11_octet_23 : decode cX11_octet 23 = .ok (.goto 4, 3) := by decide +kernel
theorem dX11_octet_26 : decode cX11_octet 26 = .ok (.iconst (-1), 1) := by decide +kernel
theorem dX11_octet_27 : decode cX11_octet 27 = .ok (.ireturn, 1) := by decide +kernel
theorem dX11_count_0 : decode cX11_count 0 = .ok (.aload_n 0, 1) := by decide +kernel
theorem dX11_count_1 : decode cX11_count 1 = .ok (.iconst 0, 1) := by decide +kernel
theorem dX11_count_2 : decode cX11_count 2 = .ok (.putfield 33, 3) := by decide +kernel
theorem dX11_count_5 : decode cX11_count 5 = .ok (.iload_n 1, 1) := by decide +kernel
theorem dX11_count_6 : decode cX11_count 6 = .ok (.ifCond .ne 10, 3) := by decide +kernel
theorem dX11_count_9 : decode cX11_count 9 = .ok (.aload_n 0, 1) := by decide +kernel
theorem dX11_count_10 : decode cX11_count 10 = .ok (.getfield 26, 3) := by decide +kernel
theorem dX11_count_13 : decode cX11_count 13 = .ok (.goto 40, 3) := by decide +kernel
