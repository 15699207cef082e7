theorem dX9_ahead_300 : decode cX9_ahead 300 = .ok (.iload_n 3, 1) := by decide +kernel
theorem dX9_ahead_301 : decode cX9_ahead 301 = .ok (.ifCond .eq 24, 3) := by decide +kernel
theorem dX9_ahead_304 : decode cX9_ahead 304 = .ok (.aload_n 0, 1) := by decide +kernel
theorem dX9_ahead_305 : decode cX9_ahead 305 = .ok (.bipush 10, 2) := by decide +kernel
theorem dX9_ahead_307 : decode cX9_ahead 307 = .ok (.aload_n 0, 1) := by decide +kernel
theorem dX9_ahead_308 : decode cX9_ahead 308 = .ok (.getfield 29, 3) := by decide +kernel
theorem dX9_ahead_311 : decode cX9_ahead 311 = .ok (.imul, 1) := by decide +kernel
theorem dX9_ahead_312 : decode cX9_ahead 312 = .ok (.aload_n 0, 1) := by decide +kernel
theorem dX9_ahead_313 : decode cX9_ahead 313 = .ok (.getfield 7, 3) := by decide +kernel
theorem dX9_ahead_316 : decode cX9_ahead 316 = .ok (.iload_n 1, 1) := by decide +kernel
theorem dX9_ahead_317 : decode cX9_ahead 317 = .ok (.iaload, 1) := by decide +kernel
theorem dX9_ahead_318 : decode cX9_ahead 318 = .ok (.iadd, 1) := by decide +kernel
theorem dX9_ahead_319 : decode cX9_ahead 319 = .ok (.bipush 48, 2) := by decide +kernel
theorem dX9_ahead_321 : decode cX9_ahead 321 = .ok (.isub, 1) := by decide +kernel
theorem dX9_ahead_322 : decode cX9_ahead 322 = .ok (.putfield 29, 3) := by decide +kernel
theorem dX9_ahead_325 : decode cX9_ahead 325 = .ok (.iinc 5 1, 3) := by decide +kernel
theorem dX9_ahead_328 : decode cX9_ahead 328 = .ok (.iinc 1 1, 3) := by decide +kernel
theorem dX9_ahead_331 : decode cX9_ahead 331 = .ok (.goto (-127), 3) := by decide +kernel
theorem dX9_ahead_334 : decode cX9_ahead 334 = .ok (.aload_n 0, 1) := by decide +kernel
theorem dX9_ahead_335 : decode cX9_ahead 335 = .ok (.iload_n 1, 1) := by decide +kernel
theorem dX9_ahead_336 : decode cX9_ahead 336 = .ok (.putfield 26, 3) := by decide +kernel
theorem dX9_ahead_339 : decode cX9_ahead 339 = .ok (.iload_n 2, 1) := by decide +kernel
theorem dX9_ahead_340 : decode cX9_ahead 340 = .ok (.ifCond .eq 40, 3) := by decide +kernel
theorem dX9_ahead_343 : decode cX9_ahead 343 = .ok (.iload 5, 2) := by decide +kernel
theorem dX9_ahead_345 : decode cX9_ahead 345 = .ok (.bipush 8, 2) := by decide +kernel
theorem dX9_ahead_347 : decode cX9_ahead 347 = .ok (.if_icmp .gt 33, 3) := by decide +kernel
theorem dX9_ahead_350 : decode cX9_ahead 350 = .ok (.aload_n 0, 1) := by decide +kernel
theorem dX9_ahead_351 : decode cX9_ahead 351 = .ok (.getfield 48, 3) := by decide +kernel
theorem dX9_ahead_354 : decode cX9_ahead 354 = .ok (.aload_n 0, 1) := by decide +kernel
theorem dX9_ahead_355 : decode cX9_ahead 355 = .ok (.getfield 23, 3) := by decide +kernel
theorem dX9_ahead_358 : decode cX9_ahead 358 = .ok (.iload 4, 2) := by decide +kernel
theorem dX9_ahead_360 : decode cX9_ahead 360 = .ok (.iadd, 1) := by decide +kernel
theorem dX9_ahead_361 : decode cX9_ahead 361 = .ok (.if_icmp .ne 19, 3) := by decide +kernel
theorem dX9_ahead_364 : decode cX9_ahead 364 = .ok (.aload_n 0, 1) := by decide +kernel
theorem dX9_ahead_365 : decode cX9_ahead 365 = .ok (.aload_n 0, 1) := by decide +kernel
theorem dX9_ahead_366 : decode cX9_ahead 366 = .ok (.getfield 32, 3) := by decide +kernel
theorem dX9_ahead_369 : decode cX9_ahead 369 = .ok (.invokevirtual 247, 3) := by decide +kernel
theorem dX9_ahead_372 : decode cX9_ahead 372 = .ok (.ifCond .eq 8, 3) := by decide +kernel
theorem dX9_ahead_375 : decode cX9_ahead 375 = .ok (.aload_n 0, 1) := by decide +kernel
theorem dX9_ahead_376 : decode cX9_ahead 376 = .ok (.iconst (-1), 1) := by decide +kernel
theorem dX9_ahead_377 : decode cX9_ahead 377 = .ok (.putfield 48, 3) := by decide +kernel
theorem dX9_ahead_380 : decode cX9_ahead 380 = .ok (.return_, 1) := by decide +kernel
theorem dX9_isSign_0 : decode cX9_isSign 0 = .ok (.aload_n 0, 1) := by decide +kernel
theorem dX9_isSign_1 : decode cX9_isSign 1 = .ok (.getfield 20, 3) := by decide +kernel
theorem dX9_isSign_4 : decode cX9_isSign 4 = .ok (.iconst 3, 1) := by decide +kernel
theorem dX9_isSign_5 : decode cX9_isSign 5 = .ok (.if_icmp .ne 15, 3) := by decide +kernel
theorem dX9_isSign_8 : decode cX9_isSign 8 = .ok (.aload_n 0, 1) := by decide +kernel
theorem dX9_isSign_9 : decode cX9_isSign 9 = .ok (.getfield 29, 3) := by decide +kernel
theorem dX9_isSign_12 : decode cX9_isSign 12 = .ok (.iload_n 1, 1) := by decide +kernel
theorem dX9_isSign_13 : decode cX9_isSign 13 = .ok (.if_icmp .ne 7, 3) := by decide +kernel
theorem dX9_isSign_16 : decode cX9_isSign 16 = .ok (.iconst 1, 1) := by decide +kernel
theorem dX9_isSign_17 : decode cX9_isSign 17 = .ok (.goto 4, 3) := by decide +kernel
theorem dX9_isSign_20 : decode cX9_isSign 20 = .ok (.iconst 0, 1) := by decide +kernel
theorem dX9_isSign_21 : decode cX9_isSign 21 = .ok (.ireturn, 1) := by decide +kernel
theorem dX9_isWord_0 : decode cX9_isWord 0 = .ok (.aload_n 0, 1) := by decide +kernel
theorem dX9_isWord_1 : decode cX9_isWord 1 = .ok (.getfield 20, 3) := by decide +kernel
theorem dX9_isWord_4 : decode cX9_isWord 4 = .ok (.iconst 1, 1) := by decide +kernel
theorem dX9_isWord_5 : decode cX9_isWord 5 = .ok (.if_icmp .ne 16, 3) := by decide +kernel
theorem dX9_isWord_8 : decode cX9_isWord 8 = .ok (.aload_n 0, 1) := by decide +kernel
theorem dX9_isWord_9 : decode cX9_isWord 9 = .ok (.getfield 32, 3) := by decide +kernel
theorem dX9_isWord_12 : decode cX9_isWord 12 = .ok (.lload_n 1, 1) := by decide +kernel
theorem dX9_isWord_13 : decode cX9_isWord 13 = .ok (.lcmp, 1) := by decide +kernel
theorem dX9_isWord_14 : decode cX9_isWord 14 = .ok (.ifCond .ne 7, 3) := by decide +kernel
theorem dX9_isWord_17 : decode cX9_isWord 17 = .ok (.iconst 1, 1) := by decide +kernel
theorem dX9_isWord_18 : decode cX9_isWord 18 = .ok (.goto 4, 3) := by decide +kernel
theorem dX9_isWord_21 : decode cX9_isWord 21 = .ok (.iconst 0, 1) := by decide +kernel
theorem dX9_isWord_22 : decode cX9_isWord 22 = .ok (.ireturn, 1) := by decide +kernel
theorem dX9_must_0 : decode cX9_must 0 = .ok (.aload_n 0, 1) := by decide +kernel
theorem dX9_must_1 : decode cX9_must 1 = .ok (.invokevirtual 251, 3) := by decide +kernel
theorem dX9_must_4 : decode cX9_must 4 = .ok (.aload_n 0, 1) := by decide +kernel
theorem dX9_must_5 : decode cX9_must 5 = .ok (.iload_n 1, 1) := by decide +kernel
theorem dX9_must_6 : decode cX9_must 6 = .ok (.invokevirtual 254, 3) := by decide +kernel
theorem dX9_must_9 : decode cX9_must 9 = .ok (.ifCond .ne 12, 3) := by decide +kernel
theorem dX9_must_12 : decode cX9_must 12 = .ok (.aload_n 0, 1) := by decide +kernel
theorem dX9_must_13 : decode cX9_must 13 = .ok (.iconst 1, 1) := by decide +kernel
theorem dX9_must_14 : decode cX9_must 14 = .ok (.aload_n 0, 1) := by decide +kernel
theorem dX9_must_15 : decode cX9_must 15 = .ok (.getfield 23, 3) := by decide +kernel
theorem dX9_must_18 : decode cX9_must 18 = .ok (.invokevirtual 236, 3) := by decide +kernel
theorem dX9_must_21 : decode cX9_must 21 = .ok (.aload_n 0, 1) := by decide +kernel
theorem dX9_must_22 : decode cX9_must 22 = .ok (.getfield 36, 3) := by decide +kernel
theorem dX9_must_25 : decode cX9_must 25 = .ok (.ifCond .ne 7, 3) := by decide +kernel
theorem dX9_must_28 : decode cX9_must 28 = .ok (.aload_n 0, 1) := by decide +kernel
theorem dX9_must_29 : decode cX9_must 29 = .ok (.invokevirtual 257, 3) := by decide +kernel
theorem dX9_must_32 : decode cX9_must 32 = .ok (.return_, 1) := by decide +kernel
theorem dX9_isOwn_0 : decode cX9_isOwn 0 = .ok (.lload_n 1, 1) := by decide +kernel
theorem dX9_isOwn_1 : decode cX9_isOwn 1 = .ok (.ldc2_w 260, 3) := by decide +kernel
theorem dX9_isOwn_4 : decode cX9_isOwn 4 = .ok (.lcmp, 1) := by decide +kernel
theorem dX9_isOwn_5 : decode cX9_isOwn 5 = .ok (.ifCond .eq 35, 3) := by decide +kernel
theorem dX9_isOwn_8 : decode cX9_isOwn 8 = .ok (.lload_n 1, 1) := by decide +kernel
theorem dX9_isOwn_9 : decode cX9_isOwn 9 = .ok (.ldc2_w 262, 3) := by decide +kernel
theorem dX9_isOwn_12 : decode cX9_isOwn 12 = .ok (.lcmp, 1) := by decide +kernel
theorem dX9_isOwn_13 : decode cX9_isOwn 13 = .ok (.ifCond .eq 27, 3) := by decide +kernel
theorem dX9_isOwn_16 : decode cX9_isOwn 16 = .ok (.lload_n 1, 1) := by decide +kernel
theorem dX9_isOwn_17 : decode cX9_isOwn 17 = .ok (.ldc2_w 264, 3) := by decide +kernel
theorem dX9_isOwn_20 : decode cX9_isOwn 20 = .ok (.lcmp, 1) := by decide +kernel
theorem dX9_isOwn_21 : decode cX9_isOwn 21 = .ok (.ifCond .eq 19, 3) := by decide +kernel
theorem dX9_isOwn_24 : decode cX9_isOwn 24 = .ok (.lload_n 1, 1) := by decide +kernel
theorem dX9_isOwn_25 : decode cX9_isOwn 25 = .ok (.ldc2_w 266, 3) := by decide +kernel
theorem dX9_isOwn_28 : decode cX9_isOwn 28 = .ok (.lcmp, 1) := by decide +kernel
theorem dX9_isOwn_29 : decode cX9_isOwn 29 = .ok (.ifCond .eq 11, 3) := by decide +kernel
theorem dX9_isOwn_32 : decode cX9_isOwn 32 = .ok (.lload_n 1, 1) := by decide +kernel
theorem dX9_isOwn_33 : decode cX9_isOwn 33 = .ok (.ldc2_w 268, 3) := by decide +kernel
theorem dX9_isOwn_36 : decode cX9_isOwn 36 = .ok (.lcmp, 1) := by decide +kernel
theorem dX9_isOwn_37 : decode cX9_isOwn 37 = .ok (.ifCond .ne 5, 3) := by decide +kernel
theorem dX9_isOwn_40 : decode cX9_isOwn 40 = .ok (.iconst 1, 1) := by decide +kernel
theorem dX9_isOwn_41 : decode cX9_isOwn 41 = .ok (.ireturn, 1) := by decide +kernel
theorem dX9_isOwn_42 : decode cX9_isOwn 42 = .ok (.lload_n 1, 1) := by decide +kernel
theorem dX9_isOwn_43 : decode cX9_isOwn 43 = .ok (.ldc2_w 270, 3) := by decide +kernel
theorem dX9_isOwn_46 : decode cX9_isOwn 46 = .ok (.lcmp, 1) := by decide +kernel
theorem dX9_isOwn_47 : decode cX9_isOwn 47 = .ok (.ifCond .eq 35, 3) := by decide +kernel
theorem dX9_isOwn_50 : decode cX9_isOwn 50 = .ok (.lload_n 1, 1) := by decide +kernel
theorem dX9_isOwn_51 : decode cX9_isOwn 51 = .ok (.ldc2_w 272, 3) := by decide +kernel
theorem dX9_isOwn_54 : decode cX9_isOwn 54 = .ok (.lcmp, 1) := by decide +kernel
theorem dX9_isOwn_55 : decode cX9_isOwn 55 = .ok (.ifCond .eq 27, 3) := by decide +kernel
theorem dX9_isOwn_58 : decode cX9_isOwn 58 = .ok (.lload_n 1, 1) := by decide +kernel
theorem dX9_isOwn_59 : decode cX9_isOwn 59 = .ok (.ldc2_w 274, 3) := by decide +kernel
theorem dX9_isOwn_62 : decode cX9_isOwn 62 = .ok (.lcmp, 1) := by decide +kernel
theorem dX9_isOwn_63 : decode cX9_isOwn 63 = .ok (.ifCond .eq 19, 3) := by decide +kernel
theorem dX9_isOwn_66 : decode cX9_isOwn 66 = .ok (.lload_n 1, 1) := by decide +kernel
theorem dX9_isOwn_67 : decode cX9_isOwn 67 = .ok (.ldc2_w 276, 3) := by decide +kernel
theorem dX9_isOwn_70 : decode cX9_isOwn 70 = .ok (.lcmp, 1) := by decide +kernel
theorem dX9_isOwn_71 : decode cX9_isOwn 71 = .ok (.ifCond .eq 11, 3) := by decide +kernel
theorem dX9_isOwn_74 : decode cX9_isOwn 74 = .ok (.lload_n 1, 1) := by decide +kernel
theorem dX9_isOwn_75 : decode cX9_isOwn 75 = .ok (.ldc2_w 278, 3) := by decide +kernel
theorem dX9_isOwn_78 : decode cX9_isOwn 78 = .ok (.lcmp, 1) := by decide +kernel
theorem dX9_isOwn_79 : decode cX9_isOwn 79 = .ok (.ifCond .ne 5, 3) := by decide +kernel
theorem dX9_isOwn_82 : decode cX9_isOwn 82 = .ok (.iconst 1, 1) := by decide +kernel
theorem dX9_isOwn_83 : decode cX9_isOwn 83 = .ok (.ireturn, 1) := by decide +kernel
theorem dX9_isOwn_84 : decode cX9_isOwn 84 = .ok (.lload_n 1, 1) := by decide +kernel
theorem dX9_isOwn_85 : decode cX9_isOwn 85 = .ok (.ldc2_w 280, 3) := by decide +kernel
theorem dX9_isOwn_88 : decode cX9_isOwn 88 = .ok (.lcmp, 1) := by decide +kernel
theorem dX9_isOwn_89 : decode cX9_isOwn 89 = .ok (.ifCond .eq 35, 3) := by decide +kernel
theorem dX9_isOwn_92 : decode cX9_isOwn 92 = .ok (.lload_n 1, 1) := by decide +kernel
theorem dX9_isOwn_93 : decode cX9_isOwn 93 = .ok (.ldc2_w 282, 3) := by decide +kernel
theorem dX9_isOwn_96 : decode cX9_isOwn 96 = .ok (.lcmp, 1) := by decide +kernel
theorem dX9_isOwn_97 : decode cX9_isOwn 97 = .ok (.ifCond .eq 27, 3) := by decide +kernel
theorem dX9_isOwn_100 : decode cX9_isOwn 100 = .ok (.lload_n 1, 1) := by decide +kernel
theorem dX9_isOwn_101 : decode cX9_isOwn 101 = .ok (.ldc2_w 284, 3) := by decide +kernel
theorem dX9_isOwn_104 : decode cX9_isOwn 104 = .ok (.lcmp, 1) := by decide +kernel
theorem dX9_isOwn_105 : decode cX9_isOwn 105 = .ok (.ifCond .eq 19, 3) := by decide +kernel
theorem dX9_isOwn_108 : decode cX9_isOwn 108 = .ok (.lload_n 1, 1) := by decide +kernel
theorem dX9_isOwn_109 : decode cX9_isOwn 109 = .ok (.ldc2_w 286, 3) := by decide +kernel
theorem dX9_isOwn_112 : decode cX9_isOwn 112 = .ok (.lcmp, 1) := by decide +kernel
theorem dX9_isOwn_113 : decode cX9_isOwn 113 = .ok (.ifCond .eq 11, 3) := by decide +kernel
theorem dX9_isOwn_116 : decode cX9_isOwn 116 = .ok (.lload_n 1, 1) := by decide +kernel
theorem dX9_isOwn_117 : decode cX9_isOwn 117 = .ok (.ldc2_w 288, 3) := by decide +kernel
theorem dX9_isOwn_120 : decode cX9_isOwn 120 = .ok (.lcmp, 1) := by decide +kernel
theorem dX9_isOwn_121 : decode cX9_isOwn 121 = .ok (.ifCond .ne 5, 3) := by decide +kernel
theorem dX9_isOwn_124 : decode cX9_isOwn 124 = .ok (.iconst 1, 1) := by decide +kernel
theorem dX9_isOwn_125 : decode cX9_isOwn 125 = .ok (.ireturn, 1) := by decide +kernel
theorem dX9_isOwn_126 : decode cX9_isOwn 126 = .ok (.lload_n 1, 1) := by decide +kernel
theorem dX9_isOwn_127 : decode cX9_isOwn 127 = .ok (.ldc2_w 290, 3) := by decide +kernel
theorem dX9_isOwn_130 : decode cX9_isOwn 130 = .ok (.lcmp, 1) := by decide +kernel
theorem dX9_isOwn_131 : decode cX9_isOwn 131 = .ok (.ifCond .eq 35, 3) := by decide +kernel
theorem dX9_isOwn_134 : decode cX9_isOwn 134 = .ok (.lload_n 1, 1) := by decide +kernel
theorem dX9_isOwn_135 : decode cX9_isOwn 135 = .ok (.ldc2_w 292, 3) := by decide +kernel
theorem dX9_isOwn_138 : decode cX9_isOwn 138 = .ok (.lcmp, 1) := by decide +kernel
theorem dX9_isOwn_139 : decode cX9_isOwn 139 = .ok (.ifCond .eq 27, 3) := by decide +kernel
theorem dX9_isOwn_142 : decode cX9_isOwn 142 = .ok (.lload_n 1, 1) := by decide +kernel
theorem dX9_isOwn_143 : decode cX9_isOwn 143 = .ok (.ldc2_w 294, 3) := by decide +kernel
theorem dX9_isOwn_146 : decode cX9_isOwn 146 = .ok (.lcmp, 1) := by decide +kernel
theorem dX9_isOwn_147 : decode cX9_isOwn 147 = .ok (.ifCond .eq 19, 3) := by decide +kernel
theorem dX9_isOwn_150 : decode cX9_isOwn 150 = .ok (.lload_n 1, 1) := by decide +kernel
theorem dX9_isOwn_151 : decode cX9_isOwn 151 = .ok (.ldc2_w 296, 3) := by decide +kernel
theorem dX9_isOwn_154 : decode cX9_isOwn 154 = .ok (.lcmp, 1) := by decide +kernel
theorem dX9_isOwn_155 : decode cX9_isOwn 155 = .ok (.ifCond .eq 11, 3) := by decide +kernel
theorem dX9_isOwn_158 : decode cX9_isOwn 158 = .ok (.lload_n 1, 1) := by decide +kernel
theorem dX9_isOwn_159 : decode cX9_isOwn 159 = .ok (.ldc2_w 298, 3) := by decide +kernel
theorem dX9_isOwn_162 : decode cX9_isOwn 162 = .ok (.lcmp, 1) := by decide +kernel
theorem dX9_isOwn_163 : decode cX9_isOwn 163 = .ok (.ifCond .ne 5, 3) := by decide +kernel
theorem dX9_isOwn_166 : decode cX9_isOwn 166 = .ok (.iconst 1, 1) := by decide +kernel
theorem dX9_isOwn_167 : decode cX9_isOwn 167 = .ok (.ireturn, 1) := by decide +kernel
theorem dX9_isOwn_168 : decode cX9_isOwn 168 = .ok (.lload_n 1, 1) := by decide +kernel
theorem dX9_isOwn_169 : decode cX9_isOwn 169 = .ok (.ldc2_w 300, 3) := by decide +kernel
theorem dX9_isOwn_172 : decode cX9_isOwn 172 = .ok (.lcmp, 1) := by decide +kernel
theorem dX9_isOwn_173 : decode cX9_isOwn 173 = .ok (.ifCond .eq 19, 3) := by decide +kernel
theorem dX9_isOwn_176 : decode cX9_isOwn 176 = .ok (.lload_n 1, 1) := by decide +kernel
theorem dX9_isOwn_177 : decode cX9_isOwn 177 = .ok (.ldc2_w 302, 3) := by decide +kernel
theorem dX9_isOwn_180 : decode cX9_isOwn 180 = .ok (.lcmp, 1) := by decide +kernel
theorem dX9_isOwn_181 : decode cX9_isOwn 181 = .ok (.ifCond .eq 11, 3) := by decide +kernel
theorem dX9_isOwn_184 : decode cX9_isOwn 184 = .ok (.lload_n 1, 1) := by decide +kernel
theorem dX9_isOwn_185 : decode cX9_isOwn 185 = .ok (.ldc2_w 304, 3) := by decide +kernel
theorem dX9_isOwn_188 : decode cX9_isOwn 188 = .ok (.lcmp, 1) := by decide +kernel
theorem dX9_isOwn_189 : decode cX9_isOwn 189 = .ok (.ifCond .ne 5, 3) := by decide +kernel
theorem dX9_isOwn_192 : decode cX9_isOwn 192 = .ok (.iconst 1, 1) := by decide +kernel
theorem dX9_isOwn_193 : decode cX9_isOwn 193 = .ok (.ireturn, 1) := by decide +kernel
theorem dX9_isOwn_194 : decode cX9_isOwn 194 = .ok (.iconst 0, 1) := by decide +kernel
theorem dX9_isOwn_195 : decode cX9_isOwn 195 = .ok (.ireturn, 1) := by decide +kernel
theorem dX9_manyOf_0 : decode cX9_manyOf 0 = .ok (.iload_n 2, 1) := by decide +kernel
theorem dX9_manyOf_1 : decode cX9_manyOf 1 = .ok (.ifCond .ne 12, 3) := by decide +kernel
theorem dX9_manyOf_4 : decode cX9_manyOf 4 = .ok (.aload_n 0, 1) := by decide +kernel
theorem dX9_manyOf_5 : decode cX9_manyOf 5 = .ok (.getfield 54, 3) := by decide +kernel
theorem dX9_manyOf_8 : decode cX9_manyOf 8 = .ok (.iload_n 1, 1) := by decide +kernel
theorem dX9_manyOf_9 : decode cX9_manyOf 9 = .ok (.iaload, 1) := by decide +kernel
theorem dX9_manyOf_10 : decode cX9_manyOf 10 = .ok (.goto 23, 3) := by decide +kernel
theorem dX9_manyOf_13 : decode cX9_manyOf 13 = .ok (.iload_n 2, 1) := by decide +kernel
theorem dX9_manyOf_14 : decode cX9_manyOf 14 = .ok (.iconst 1, 1) := by decide +kernel
theorem dX9_manyOf_15 : decode cX9_manyOf 15 = .ok (.if_icmp .ne 12, 3) := by decide +kernel
theorem dX9_manyOf_18 : decode cX9_manyOf 18 = .ok (.aload_n 0, 1) := by decide +kernel
theorem dX9_manyOf_19 : decode cX9_manyOf 19 = .ok (.getfield 60, 3) := by decide +kernel
theorem dX9_manyOf_22 : decode cX9_manyOf 22 = .ok (.iload_n 1, 1) := by decide +kernel
theorem dX9_manyOf_23 : decode cX9_manyOf 23 = .ok (.iaload, 1) := by decide +kernel
theorem dX9_manyOf_24 : decode cX9_manyOf 24 = .ok (.goto 9, 3) := by decide +kernel
theorem dX9_manyOf_27 : decode cX9_manyOf 27 = .ok (.aload_n 0, 1) := by decide +kernel
theorem dX9_manyOf_28 : decode cX9_manyOf 28 = .ok (.getfield 75, 3) := by decide +kernel
theorem dX9_manyOf_31 : decode cX9_manyOf 31 = .ok (.iload_n 1, 1) := by decide +kernel
theorem dX9_manyOf_32 : decode cX9_manyOf 32 = .ok (.iaload, 1) := by decide +kernel
theorem dX9_manyOf_33 : decode cX9_manyOf 33 = .ok (.ireturn, 1) := by decide +kernel
theorem dX9_nameOf_0 : decode cX9_nameOf 0 = .ok (.iload_n 2, 1) := by decide +kernel
theorem dX9_nameOf_1 : decode cX9_nameOf 1 = .ok (.ifCond .ne 17, 3) := by decide +kernel
theorem dX9_nameOf_4 : decode cX9_nameOf 4 = .ok (.aload_n 0, 1) := by decide +kernel
theorem dX9_nameOf_5 : decode cX9_nameOf 5 = .ok (.getfield 108, 3) := by decide +kernel
theorem dX9_nameOf_8 : decode cX9_nameOf 8 = .ok (.bipush 10, 2) := by decide +kernel
theorem dX9_nameOf_10 : decode cX9_nameOf 10 = .ok (.iload_n 1, 1) := by decide +kernel
theorem dX9_nameOf_11 : decode cX9_nameOf 11 = .ok (.imul, 1) := by decide +kernel
theorem dX9_nameOf_12 : decode cX9_nameOf 12 = .ok (.iload_n 3, 1) := by decide +kernel
theorem dX9_nameOf_13 : decode cX9_nameOf 13 = .ok (.iadd, 1) := by decide +kernel
theorem dX9_nameOf_14 : decode cX9_nameOf 14 = .ok (.laload, 1) := by decide +kernel
theorem dX9_nameOf_15 : decode cX9_nameOf 15 = .ok (.goto 33, 3) := by decide +kernel
theorem dX9_nameOf_18 : decode cX9_nameOf 18 = .ok (.iload_n 2, 1) := by decide +kernel
theorem dX9_nameOf_19 : decode cX9_nameOf 19 = .ok (.iconst 1, 1) := by decide +kernel
theorem dX9_nameOf_20 : decode cX9_nameOf 20 = .ok (.if_icmp .ne 17, 3) := by decide +kernel
theorem dX9_nameOf_23 : decode cX9_nameOf 23 = .ok (.aload_n 0, 1) := by decide +kernel
theorem dX9_nameOf_24 : decode cX9_nameOf 24 = .ok (.getfield 112, 3) := by decide +kernel
theorem dX9_nameOf_27 : decode cX9_nameOf 27 = .ok (.bipush 12, 2) := by decide +kernel
theorem dX9_nameOf_29 : decode cX9_nameOf 29 = .ok (.iload_n 1, 1) := by decide +kernel
theorem dX9_nameOf_30 : decode cX9_nameOf 30 = .ok (.imul, 1) := by decide +kernel
theorem dX9_nameOf_31 : decode cX9_nameOf 31 = .ok (.iload_n 3, 1) := by decide +kernel
theorem dX9_nameOf_32 : decode cX9_nameOf 32 = .ok (.iadd, 1) := by decide +kernel
theorem dX9_nameOf_33 : decode cX9_nameOf 33 = .ok (.laload, 1) := by decide +kernel
theorem dX9_nameOf_34 : decode cX9_nameOf 34 = .ok (.goto 14, 3) := by decide +kernel
theorem dX9_nameOf_37 : decode cX9_nameOf 37 = .ok (.aload_n 0, 1) := by decide +kernel
theorem dX9_nameOf_38 : decode cX9_nameOf 38 = .ok (.getfield 115, 3) := by decide +kernel
theorem dX9_nameOf_41 : decode cX9_nameOf 41 = .ok (.bipush 10, 2) := by decide +kernel
theorem dX9_nameOf_43 : decode cX9_nameOf 43 = .ok (.iload_n 1, 1) := by decide +kernel
theorem dX9_nameOf_44 : decode cX9_nameOf 44 = .ok (.imul, 1) := by decide +kernel
theorem dX9_nameOf_45 : decode cX9_nameOf 45 = .ok (.iload_n 3, 1) := by decide +kernel
theorem dX9_nameOf_46 : decode cX9_nameOf 46 = .ok (.iadd, 1) := by decide +kernel
theorem dX9_nameOf_47 : decode cX9_nameOf 47 = .ok (.laload, 1) := by decide +kernel
theorem dX9_nameOf_48 : decode cX9_nameOf 48 = .ok (.lreturn, 1) := by decide +kernel
theorem dX9_named_0 : decode cX9_named 0 = .ok (.iconst 0, 1) := by decide +kernel
theorem dX9_named_1 : decode cX9_named 1 = .ok (.istore 4, 2) := by decide +kernel
theorem dX9_named_3 : decode cX9_named 3 = .ok (.iload 4, 2) := by decide +kernel
theorem dX9_named_5 : decode cX9_named 5 = .ok (.aload_n 0, 1) := by decide +kernel
theorem dX9_named_6 : decode cX9_named 6 = .ok (.aload_n 0, 1) := by decide +kernel
theorem dX9_named_7 : decode cX9_named 7 = .ok (.getfield 121, 3) := by decide +kernel
theorem dX9_named_10 : decode cX9_named 10 = .ok (.iload_n 1, 1) := by decide +kernel
theorem dX9_named_11 : decode cX9_named 11 = .ok (.invokevirtual 306, 3) := by decide +kernel
theorem dX9_named_14 : decode cX9_named 14 = .ok (.if_icmp .ge 28, 3) := by decide +kernel
theorem dX9_named_17 : decode cX9_named 17 = .ok (.aload_n 0, 1) := by decide +kernel
theorem dX9_named_18 : decode cX9_named 18 = .ok (.aload_n 0, 1) := by decide +kernel
theorem dX9_named_19 : decode cX9_named 19 = .ok (.getfield 121, 3) := by decide +kernel
theorem dX9_named_22 : decode cX9_named 22 = .ok (.iload_n 1, 1) := by decide +kernel
theorem dX9_named_23 : decode cX9_named 23 = .ok (.iload 4, 2) := by decide +kernel
theorem dX9_named_25 : decode cX9_named 25 = .ok (.invokevirtual 310, 3) := by decide +kernel
theorem dX9_named_28 : decode cX9_named 28 = .ok (.lload_n 2, 1) := by decide +kernel
theorem dX9_named_29 : decode cX9_named 29 = .ok (.lcmp, 1) := by decide +kernel
theorem dX9_named_30 : decode cX9_named 30 = .ok (.ifCond .ne 6, 3) := by decide +kernel
theorem dX9_named_33 : decode cX9_named 33 = .ok (.iload 4, 2) := by decide +kernel
theorem dX9_named_35 : decode cX9_named 35 = .ok (.ireturn, 1) := by decide +kernel
theorem dX9_named_36 : decode cX9_named 36 = .ok (.iinc 4 1, 3) := by decide +kernel
theorem dX9_named_39 : decode cX9_named 39 = .ok (.goto (-36), 3) := by decide +kernel
theorem dX9_named_42 : decode cX9_named 42 = .ok (.iconst (-1), 1) := by decide +kernel
theorem dX9_named_43 : decode cX9_named 43 = .ok (.ireturn, 1) := by decide +kernel
theorem dX9_number_0 : decode cX9_number 0 = .ok (.aload_n 0, 1) := by decide +kernel
theorem dX9_number_1 : decode cX9_number 1 = .ok (.invokevirtual 251, 3) := by decide +kernel
theorem dX9_number_4 : decode cX9_number 4 = .ok (.aload_n 0, 1) := by decide +kernel
theorem dX9_number_5 : decode cX9_number 5 = .ok (.getfield 36, 3) := by decide +kernel
theorem dX9_number_8 : decode cX9_number 8 = .ok (.ifCond .le 5, 3) := by decide +kernel
theorem dX9_number_11 : decode cX9_number 11 = .ok (.iconst 0, 1) := by decide +kernel
theorem dX9_number_12 : decode cX9_number 12 = .ok (.ireturn, 1) := by decide +kernel
theorem dX9_number_13 : decode cX9_number 13 = .ok (.aload_n 0, 1) := by decide +kernel
theorem dX9_number_14 : decode cX9_number 14 = .ok (.getfield 20, 3) := by decide +kernel
theorem dX9_number_17 : decode cX9_number 17 = .ok (.iconst 2, 1) := by decide +kernel
theorem dX9_number_18 : decode cX9_number 18 = .ok (.if_icmp .eq 12, 3) := by decide +kernel
theorem dX9_number_21 : decode cX9_number 21 = .ok (.aload_n 0, 1) := by decide +kernel
theorem dX9_number_22 : decode cX9_number 22 = .ok (.iconst 1, 1) := by decide +kernel
theorem dX9_number_23 : decode cX9_number 23 = .ok (.aload_n 0, 1) := by decide +kernel
theorem dX9_number_24 : decode cX9_number 24 = .ok (.getfield 23, 3) := by decide +kernel
theorem dX9_number_27 : decode cX9_number 27 = .ok (.invokevirtual 236, 3) := by decide +kernel
theorem dX9_number_30 : decode cX9_number 30 = .ok (.aload_n 0, 1) := by decide +kernel
theorem dX9_number_31 : decode cX9_number 31 = .ok (.getfield 36, 3) := by decide +kernel
theorem dX9_number_34 : decode cX9_number 34 = .ok (.ifCond .ne 24, 3) := by decide +kernel
theorem dX9_number_37 : decode cX9_number 37 = .ok (.aload_n 0, 1) := by decide +kernel
theorem dX9_number_38 : decode cX9_number 38 = .ok (.getfield 29, 3) := by decide +kernel
theorem dX9_number_41 : decode cX9_number 41 = .ok (.iload_n 1, 1) := by decide +kernel
theorem dX9_number_42 : decode cX9_number 42 = .ok (.iload_n 2, 1) := by decide +kernel
theorem dX9_number_43 : decode cX9_number 43 = .ok (.invokestatic 314, 3) := by decide +kernel
theorem dX9_number_46 : decode cX9_number 46 = .ok (.ifCond .ne 12, 3) := by decide +kernel
theorem dX9_number_49 : decode cX9_number 49 = .ok (.aload_n 0, 1) := by decide +kernel
theorem dX9_number_50 : decode cX9_number 50 = .ok (.iconst 4, 1) := by decide +kernel
theorem dX9_number_51 : decode cX9_number 51 = .ok (.aload_n 0, 1) := by decide +kernel
theorem dX9_number_52 : decode cX9_number 52 = .ok (.getfield 23, 3) := by decide +kernel
theorem dX9_number_55 : decode cX9_number 55 = .ok (.invokevirtual 236, 3) := by decide +kernel
theorem dX9_number_58 : decode cX9_number 58 = .ok (.aload_n 0, 1) := by decide +kernel
theorem dX9_number_59 : decode cX9_number 59 = .ok (.getfield 29, 3) := by decide +kernel
theorem dX9_number_62 : decode cX9_number 62 = .ok (.istore_n 3, 1) := by decide +kernel
theorem dX9_number_63 : decode cX9_number 63 = .ok (.aload_n 0, 1) := by decide +kernel
theorem dX9_number_64 : decode cX9_number 64 = .ok (.getfield 36, 3) := by decide +kernel
theorem dX9_number_67 : decode cX9_number 67 = .ok (.ifCond .ne 7, 3) := by decide +kernel
theorem dX9_number_70 : decode cX9_number 70 = .ok (.aload_n 0, 1) := by decide +kernel
theorem dX9_number_71 : decode cX9_number 71 = .ok (.invokevirtual 257, 3) := by decide +kernel
theorem dX9_number_74 : decode cX9_number 74 = .ok (.iload_n 3, 1) := by decide +kernel
theorem dX9_number_75 : decode cX9_number 75 = .ok (.ireturn, 1) := by decide +kernel
theorem dX9_add_0 : decode cX9_add 0 = .ok (.aload_n 0, 1) := by decide +kernel
theorem dX9_add_1 : decode cX9_add 1 = .ok (.getfield 102, 3) := by decide +kernel
theorem dX9_add_4 : decode cX9_add 4 = .ok (.sipush 1600, 3) := by decide +kernel
theorem dX9_add_7 : decode cX9_add 7 = .ok (.aload_n 0, 1) := by decide +kernel
theorem dX9_add_8 : decode cX9_add 8 = .ok (.getfield 121, 3) := by decide +kernel
theorem dX9_add_11 : decode cX9_add 11 = .ok (.imul, 1) := by decide +kernel
theorem dX9_add_12 : decode cX9_add 12 = .ok (.aload_n 0, 1) := by decide +kernel
theorem dX9_add_13 : decode cX9_add 13 = .ok (.getfield 118, 3) := by decide +kernel
theorem dX9_add_16 : decode cX9_add 16 = .ok (.iadd, 1) := by decide +kernel
theorem dX9_add_17 : decode cX9_add 17 = .ok (.iload_n 1, 1) := by decide +kernel
theorem dX9_add_18 : decode cX9_add 18 = .ok (.iastore, 1) := by decide +kernel
theorem dX9_add_19 : decode cX9_add 19 = .ok (.aload_n 0, 1) := by decide +kernel
theorem dX9_add_20 : decode cX9_add 20 = .ok (.getfield 105, 3) := by decide +kernel
theorem dX9_add_23 : decode cX9_add 23 = .ok (.sipush 1600, 3) := by decide +kernel
theorem dX9_add_26 : decode cX9_add 26 = .ok (.aload_n 0, 1) := by decide +kernel
theorem dX9_add_27 : decode cX9_add 27 = .ok (.getfield 121, 3) := by decide +kernel
theorem dX9_add_30 : decode cX9_add 30 = .ok (.imul, 1) := by decide +kernel
theorem dX9_add_31 : decode cX9_add 31 = .ok (.aload_n 0, 1) := by decide +kernel
theorem dX9_add_32 : decode cX9_add 32 = .ok (.getfield 118, 3) := by decide +kernel
theorem dX9_add_35 : decode cX9_add 35 = .ok (.iadd, 1) := by decide +kernel
theorem dX9_add_36 : decode cX9_add 36 = .ok (.iload_n 2, 1) := by decide +kernel
theorem dX9_add_37 : decode cX9_add 37 = .ok (.iastore, 1) := by decide +kernel
theorem dX9_add_38 : decode cX9_add 38 = .ok (.aload_n 0, 1) := by decide +kernel
theorem dX9_add_39 : decode cX9_add 39 = .ok (.dup, 1) := by decide +kernel
theorem dX9_add_40 : decode cX9_add 40 = .ok (.getfield 118, 3) := by decide +kernel
theorem dX9_add_43 : decode cX9_add 43 = .ok (.iconst 1, 1) := by decide +kernel
theorem dX9_add_44 : decode cX9_add 44 = .ok (.iadd, 1) := by decide +kernel
theorem dX9_add_45 : decode cX9_add 45 = .ok (.putfield 118, 3) := by decide +kernel
theorem dX9_add_48 : decode cX9_add 48 = .ok (.return_, 1) := by decide +kernel
theorem dX9_rank_0 : decode cX9_rank 0 = .ok (.iload_n 0, 1) := by decide +kernel
theorem dX9_rank_1 : decode cX9_rank 1 = .ok (.bipush 21, 2) := by decide +kernel
theorem dX9_rank_3 : decode cX9_rank 3 = .ok (.if_icmp .ne 7, 3) := by decide +kernel
theorem dX9_rank_6 : decode cX9_rank 6 = .ok (.iconst 1, 1) := by decide +kernel
theorem dX9_rank_7 : decode cX9_rank 7 = .ok (.goto 63, 3) := by decide +kernel
theorem dX9_rank_10 : decode cX9_rank 10 = .ok (.iload_n 0, 1) := by decide +kernel
theorem dX9_rank_11 : decode cX9_rank 11 = .ok (.bipush 20, 2) := by decide +kernel
theorem dX9_rank_13 : decode cX9_rank 13 = .ok (.if_icmp .ne 7, 3) := by decide +kernel
theorem dX9_rank_16 : decode cX9_rank 16 = .ok (.iconst 2, 1) := by decide +kernel
theorem dX9_rank_17 : decode cX9_rank 17 = .ok (.goto 53, 3) := by decide +kernel
theorem dX9_rank_20 : decode cX9_rank 20 = .ok (.iload_n 0, 1) := by decide +kernel
theorem dX9_rank_21 : decode cX9_rank 21 = .ok (.bipush 22, 2) := by decide +kernel
theorem dX9_rank_23 : decode cX9_rank 23 = .ok (.if_icmp .ne 7, 3) := by decide +kernel
theorem dX9_rank_26 : decode cX9_rank 26 = .ok (.iconst 3, 1) := by decide +kernel
theorem dX9_rank_27 : decode cX9_rank 27 = .ok (.goto 43, 3) := by decide +kernel
theorem dX9_rank_30 : decode cX9_rank 30 = .ok (.iload_n 0, 1) := by decide +kernel
theorem dX9_rank_31 : decode cX9_rank 31 = .ok (.bipush 17, 2) := by decide +kernel
theorem dX9_rank_33 : decode cX9_rank 33 = .ok (.if_icmp .eq 15, 3) := by decide +kernel
theorem dX9_rank_36 : decode cX9_rank 36 = .ok (.iload_n 0, 1) := by decide +kernel
theorem dX9_rank_37 : decode cX9_rank 37 = .ok (.bipush 18, 2) := by decide +kernel
theorem dX9_rank_39 : decode cX9_rank 39 = .ok (.if_icmp .eq 9, 3) := by decide +kernel
theorem dX9_rank_42 : decode cX9_rank 42 = .ok (.iload_n 0, 1) := by decide +kernel
theorem dX9_rank_43 : decode cX9_rank 43 = .ok (.bipush 19, 2) := by decide +kernel
theorem dX9_rank_45 : decode cX9_rank 45 = .ok (.if_icmp .ne 7, 3) := by decide +kernel
theorem dX9_rank_48 : decode cX9_rank 48 = .ok (.iconst 4, 1) := by decide +kernel
theorem dX9_rank_49 : decode cX9_rank 49 = .ok (.goto 21, 3) := by decide +kernel
theorem dX9_rank_52 : decode cX9_rank 52 = .ok (.iload_n 0, 1) := by decide +kernel
theorem dX9_rank_53 : decode cX9_rank 53 = .ok (.bipush 10, 2) := by decide +kernel
theorem dX9_rank_55 : decode cX9_rank 55 = .ok (.if_icmp .eq 9, 3) := by decide +kernel
theorem dX9_rank_58 : decode cX9_rank 58 = .ok (.iload_n 0, 1) := by decide +kernel
theorem dX9_rank_59 : decode cX9_rank 59 = .ok (.bipush 11, 2) := by decide +kernel
theorem dX9_rank_61 : decode cX9_rank 61 = .ok (.if_icmp .ne 7, 3) := by decide +kernel
theorem dX9_rank_64 : decode cX9_rank 64 = .ok (.iconst 5, 1) := by decide +kernel
theorem dX9_rank_65 : decode cX9_rank 65 = .ok (.goto 5, 3) := by decide +kernel
theorem dX9_rank_68 : decode cX9_rank 68 = .ok (.bipush 6, 2) := by decide +kernel
theorem dX9_rank_70 : decode cX9_rank 70 = .ok (.ireturn, 1) := by decide +kernel
theorem dX9_joins_0 : decode cX9_joins 0 = .ok (.aload_n 0, 1) := by decide +kernel
theorem dX9_joins_1 : decode cX9_joins 1 = .ok (.getfield 149, 3) := by decide +kernel
theorem dX9_joins_4 : decode cX9_joins 4 = .ok (.aload_n 0, 1) := by decide +kernel
theorem dX9_joins_5 : decode cX9_joins 5 = .ok (.getfield 137, 3) := by decide +kernel
theorem dX9_joins_8 : decode cX9_joins 8 = .ok (.aload_n 0, 1) := by decide +kernel
theorem dX9_joins_9 : decode cX9_joins 9 = .ok (.getfield 140, 3) := by decide +kernel
theorem dX9_joins_12 : decode cX9_joins 12 = .ok (.iconst 1, 1) := by decide +kernel
theorem dX9_joins_13 : decode cX9_joins 13 = .ok (.isub, 1) := by decide +kernel
theorem dX9_joins_14 : decode cX9_joins 14 = .ok (.iaload, 1) := by decide +kernel
theorem dX9_joins_15 : decode cX9_joins 15 = .ok (.if_icmp .le 72, 3) := by decide +kernel
theorem dX9_joins_18 : decode cX9_joins 18 = .ok (.aload_n 0, 1) := by decide +kernel
theorem dX9_joins_19 : decode cX9_joins 19 = .ok (.getfield 146, 3) := by decide +kernel
theorem dX9_joins_22 : decode cX9_joins 22 = .ok (.aload_n 0, 1) := by decide +kernel
theorem dX9_joins_23 : decode cX9_joins 23 = .ok (.getfield 149, 3) := by decide +kernel
theorem dX9_joins_26 : decode cX9_joins 26 = .ok (.iconst 1, 1) := by decide +kernel
theorem dX9_joins_27 : decode cX9_joins 27 = .ok (.isub, 1) := by decide +kernel
theorem dX9_joins_28 : decode cX9_joins 28 = .ok (.iaload, 1) := by decide +kernel
theorem dX9_joins_29 : decode cX9_joins 29 = .ok (.invokestatic 318, 3) := by decide +kernel
theorem dX9_joins_32 : decode cX9_joins 32 = .ok (.iload_n 1, 1) := by decide +kernel
theorem dX9_joins_33 : decode cX9_joins 33 = .ok (.if_icmp .lt 54, 3) := by decide +kernel
theorem dX9_joins_36 : decode cX9_joins 36 = .ok (.aload_n 0, 1) := by decide +kernel
theorem dX9_joins_37 : decode cX9_joins 37 = .ok (.dup, 1) := by decide +kernel
theorem dX9_joins_38 : decode cX9_joins 38 = .ok (.getfield 149, 3) := by decide +kernel
theorem dX9_joins_41 : decode cX9_joins 41 = .ok (.iconst 1, 1) := by decide +kernel
theorem dX9_joins_42 : decode cX9_joins 42 = .ok (.isub, 1) := by decide +kernel
theorem dX9_joins_43 : decode cX9_joins 43 = .ok (.putfield 149, 3) := by decide +kernel
theorem dX9_joins_46 : decode cX9_joins 46 = .ok (.aload_n 0, 1) := by decide +kernel
theorem dX9_joins_47 : decode cX9_joins 47 = .ok (.aload_n 0, 1) := by decide +kernel
theorem dX9_joins_48 : decode cX9_joins 48 = .ok (.getfield 146, 3) := by decide +kernel
theorem dX9_joins_51 : decode cX9_joins 51 = .ok (.aload_n 0, 1) := by decide +kernel
theorem dX9_joins_52 : decode cX9_joins 52 = .ok (.getfield 149, 3) := by decide +kernel
theorem dX9_joins_55 : decode cX9_joins 55 = .ok (.iaload, 1) := by decide +kernel
theorem dX9_joins_56 : decode cX9_joins 56 = .ok (.iconst 0, 1) := by decide +kernel
theorem dX9_joins_57 : decode cX9_joins 57 = .ok (.invokevirtual 321, 3) := by decide +kernel
theorem dX9_joins_60 : decode cX9_joins 60 = .ok (.aload_n 0, 1) := by decide +kernel
theorem dX9_joins_61 : decode cX9_joins 61 = .ok (.getfield 146, 3) := by decide +kernel
theorem dX9_joins_64 : decode cX9_joins 64 = .ok (.aload_n 0, 1) := by decide +kernel
theorem dX9_joins_65 : decode cX9_joins 65 = .ok (.getfield 149, 3) := by decide +kernel
theorem dX9_joins_68 : decode cX9_joins 68 = .ok (.iaload, 1) := by decide +kernel
theorem dX9_joins_69 : decode cX9_joins 69 = .ok (.bipush 22, 2) := by decide +kernel
theorem dX9_joins_71 : decode cX9_joins 71 = .ok (.if_icmp .ne (-71), 3) := by decide +kernel
theorem dX9_joins_74 : decode cX9_joins 74 = .ok (.aload_n 0, 1) := by decide +kernel
theorem dX9_joins_75 : decode cX9_joins 75 = .ok (.dup, 1) := by decide +kernel
theorem dX9_joins_76 : decode cX9_joins 76 = .ok (.getfield 143, 3) := by decide +kernel
theorem dX9_joins_79 : decode cX9_joins 79 = .ok (.iconst 1, 1) := by decide +kernel
theorem dX9_joins_80 : decode cX9_joins 80 = .ok (.isub, 1) := by decide +kernel
theorem dX9_joins_81 : decode cX9_joins 81 = .ok (.putfield 143, 3) := by decide +kernel
theorem dX9_joins_84 : decode cX9_joins 84 = .ok (.goto (-84), 3) := by decide +kernel
theorem dX9_joins_87 : decode cX9_joins 87 = .ok (.return_, 1) := by decide +kernel
theorem dX9_holdsBack_0 : decode cX9_holdsBack 0 = .ok (.aload_n 0, 1) := by decide +kernel
theorem dX9_holdsBack_1 : decode cX9_holdsBack 1 = .ok (.getfield 146, 3) := by decide +kernel
theorem dX9_holdsBack_4 : decode cX9_holdsBack 4 = .ok (.aload_n 0, 1) := by decide +kernel
theorem dX9_holdsBack_5 : decode cX9_holdsBack 5 = .ok (.getfield 149, 3) := by decide +kernel
theorem dX9_holdsBack_8 : decode cX9_holdsBack 8 = .ok (.iload_n 1, 1) := by decide +kernel
theorem dX9_holdsBack_9 : decode cX9_holdsBack 9 = .ok (.iastore, 1) := by decide +kernel
theorem dX9_holdsBack_10 : decode cX9_holdsBack 10 = .ok (.aload_n 0, 1) := by decide +kernel
theorem dX9_holdsBack_11 : decode cX9_holdsBack 11 = .ok (.dup, 1) := by decide +kernel
theorem dX9_holdsBack_12 : decode cX9_holdsBack 12 = .ok (.getfield 149, 3) := by decide +kernel
theorem dX9_holdsBack_15 : decode cX9_holdsBack 15 = .ok (.iconst 1, 1) := by decide +kernel
theorem dX9_holdsBack_16 : decode cX9_holdsBack 16 = .ok (.iadd, 1) := by decide +kernel
theorem dX9_holdsBack_17 : decode cX9_holdsBack 17 = .ok (.putfield 149, 3) := by decide +kernel
theorem dX9_holdsBack_20 : decode cX9_holdsBack 20 = .ok (.return_, 1) := by decide +kernel
theorem dX9_pushes_0 : decode cX9_pushes 0 = .ok (.aload_n 0, 1) := by decide +kernel
theorem dX9_pushes_1 : decode cX9_pushes 1 = .ok (.getfield 124, 3) := by decide +kernel
theorem dX9_pushes_4 : decode cX9_pushes 4 = .ok (.aload_n 0, 1) := by decide +kernel
theorem dX9_pushes_5 : decode cX9_pushes 5 = .ok (.getfield 140, 3) := by decide +kernel
theorem dX9_pushes_8 : decode cX9_pushes 8 = .ok (.iload_n 1, 1) := by decide +kernel
theorem dX9_pushes_9 : decode cX9_pushes 9 = .ok (.iastore, 1) := by decide +kernel
theorem dX9_pushes_10 : decode cX9_pushes 10 = .ok (.aload_n 0, 1) := by decide +kernel
theorem dX9_pushes_11 : decode cX9_pushes 11 = .ok (.getfield 127, 3) := by decide +kernel
theorem dX9_pushes_14 : decode cX9_pushes 14 = .ok (.aload_n 0, 1) := by decide +kernel
theorem dX9_pushes_15 : decode cX9_pushes 15 = .ok (.getfield 140, 3) := by decide +kernel
theorem dX9_pushes_18 : decode cX9_pushes 18 = .ok (.iconst 0, 1) := by decide +kernel
theorem dX9_pushes_19 : decode cX9_pushes 19 = .ok (.iastore, 1) := by decide +kernel
theorem dX9_pushes_20 : decode cX9_pushes 20 = .ok (.aload_n 0, 1) := by decide +kernel
theorem dX9_pushes_21 : decode cX9_pushes 21 = .ok (.getfield 130, 3) := by decide +kernel
theorem dX9_pushes_24 : decode cX9_pushes 24 = .ok (.aload_n 0, 1) := by decide +kernel
theorem dX9_pushes_25 : decode cX9_pushes 25 = .ok (.getfield 140, 3) := by decide +kernel
theorem dX9_pushes_28 : decode cX9_pushes 28 = .ok (.iconst 1, 1) := by decide +kernel
theorem dX9_pushes_29 : decode cX9_pushes 29 = .ok (.bastore, 1) := by decide +kernel
theorem dX9_pushes_30 : decode cX9_pushes 30 = .ok (.aload_n 0, 1) := by decide +kernel
theorem dX9_pushes_31 : decode cX9_pushes 31 = .ok (.getfield 137, 3) := by decide +kernel
theorem dX9_pushes_34 : decode cX9_pushes 34 = .ok (.aload_n 0, 1) := by decide +kernel
theorem dX9_pushes_35 : decode cX9_pushes 35 = .ok (.getfield 140, 3) := by decide +kernel
theorem dX9_pushes_38 : decode cX9_pushes 38 = .ok (.aload_n 0, 1) := by decide +kernel
theorem dX9_pushes_39 : decode cX9_pushes 39 = .ok (.getfield 149, 3) := by decide +kernel
theorem dX9_pushes_42 : decode cX9_pushes 42 = .ok (.iastore, 1) := by decide +kernel
theorem dX9_pushes_43 : decode cX9_pushes 43 = .ok (.aload_n 0, 1) := by decide +kernel
theorem dX9_pushes_44 : decode cX9_pushes 44 = .ok (.dup, 1) := by decide +kernel
theorem dX9_pushes_45 : decode cX9_pushes 45 = .ok (.getfield 140, 3) := by decide +kernel
theorem dX9_pushes_48 : decode cX9_pushes 48 = .ok (.iconst 1, 1) := by decide +kernel
theorem dX9_pushes_49 : decode cX9_pushes 49 = .ok (.iadd, 1) := by decide +kernel
theorem dX9_pushes_50 : decode cX9_pushes 50 = .ok (.putfield 140, 3) := by decide +kernel
theorem dX9_pushes_53 : decode cX9_pushes 53 = .ok (.return_, 1) := by decide +kernel
theorem dX9_opens_0 : decode cX9_opens 0 = .ok (.aload_n 0, 1) := by decide +kernel
theorem dX9_opens_1 : decode cX9_opens 1 = .ok (.getfield 143, 3) := by decide +kernel
theorem dX9_opens_4 : decode cX9_opens 4 = .ok (.bipush 7, 2) := by decide +kernel
theorem dX9_opens_6 : decode cX9_opens 6 = .ok (.if_icmp .ne 12, 3) := by decide +kernel
theorem dX9_opens_9 : decode cX9_opens 9 = .ok (.aload_n 0, 1) := by decide +kernel
theorem dX9_opens_10 : decode cX9_opens 10 = .ok (.iconst 5, 1) := by decide +kernel
theorem dX9_opens_11 : decode cX9_opens 11 = .ok (.aload_n 0, 1) := by decide +kernel
theorem dX9_opens_12 : decode cX9_opens 12 = .ok (.getfield 23, 3) := by decide +kernel
theorem dX9_opens_15 : decode cX9_opens 15 = .ok (.invokevirtual 236, 3) := by decide +kernel
theorem dX9_opens_18 : decode cX9_opens 18 = .ok (.aload_n 0, 1) := by decide +kernel
theorem dX9_opens_19 : decode cX9_opens 19 = .ok (.getfield 36, 3) := by decide +kernel
theorem dX9_opens_22 : decode cX9_opens 22 = .ok (.ifCond .le 4, 3) := by decide +kernel
theorem dX9_opens_25 : decode cX9_opens 25 = .ok (.return_, 1) := by decide +kernel
theorem dX9_opens_26 : decode cX9_opens 26 = .ok (.aload_n 0, 1) := by decide +kernel
theorem dX9_opens_27 : decode cX9_opens 27 = .ok (.dup, 1) := by decide +kernel
theorem dX9_opens_28 : decode cX9_opens 28 = .ok (.getfield 143, 3) := by decide +kernel
theorem dX9_opens_31 : decode cX9_opens 31 = .ok (.iconst 1, 1) := by decide +kernel
theorem dX9_opens_32 : decode cX9_opens 32 = .ok (.iadd, 1) := by decide +kernel
theorem dX9_opens_33 : decode cX9_opens 33 = .ok (.putfield 143, 3) := by decide +kernel
theorem dX9_opens_36 : decode cX9_opens 36 = .ok (.aload_n 0, 1) := by decide +kernel
theorem dX9_opens_37 : decode cX9_opens 37 = .ok (.invokevirtual 257, 3) := by decide +kernel
theorem dX9_opens_40 : decode cX9_opens 40 = .ok (.aload_n 0, 1) := by decide +kernel
theorem dX9_opens_41 : decode cX9_opens 41 = .ok (.iload_n 1, 1) := by decide +kernel
theorem dX9_opens_42 : decode cX9_opens 42 = .ok (.invokevirtual 324, 3) := by decide +kernel
theorem dX9_opens_45 : decode cX9_opens 45 = .ok (.return_, 1) := by decide +kernel
theorem dX9_isTest_0 : decode cX9_isTest 0 = .ok (.iload_n 0, 1) := by decide +kernel
theorem dX9_isTest_1 : decode cX9_isTest 1 = .ok (.iconst 1, 1) := by decide +kernel
theorem dX9_isTest_2 : decode cX9_isTest 2 = .ok (.if_icmp .eq 8, 3) := by decide +kernel
theorem dX9_isTest_5 : decode cX9_isTest 5 = .ok (.iload_n 0, 1) := by decide +kernel
theorem dX9_isTest_6 : decode cX9_isTest 6 = .ok (.iconst 5, 1) := by decide +kernel
theorem dX9_isTest_7 : decode cX9_isTest 7 = .ok (.if_icmp .ne 7, 3) := by decide +kernel
theorem dX9_isTest_10 : decode cX9_isTest 10 = .ok (.iconst 1, 1) := by decide +kernel
theorem dX9_isTest_11 : decode cX9_isTest 11 = .ok (.goto 4, 3) := by decide +kernel
theorem dX9_isTest_14 : decode cX9_isTest 14 = .ok (.iconst 0, 1) := by decide +kernel
theorem dX9_isTest_15 : decode cX9_isTest 15 = .ok (.ireturn, 1) := by decide +kernel
theorem dX9_operand_0 : decode cX9_operand 0 = .ok (.aload_n 0, 1) := by decide +kernel
theorem dX9_operand_1 : decode cX9_operand 1 = .ok (.invokevirtual 251, 3) := by decide +kernel
theorem dX9_operand_4 : decode cX9_operand 4 = .ok (.aload_n 0, 1) := by decide +kernel
theorem dX9_operand_5 : decode cX9_operand 5 = .ok (.getfield 36, 3) := by decide +kernel
theorem dX9_operand_8 : decode cX9_operand 8 = .ok (.ifCond .le 5, 3) := by decide +kernel
theorem dX9_operand_11 : decode cX9_operand 11 = .ok (.iconst 1, 1) := by decide +kernel
theorem dX9_operand_12 : decode cX9_operand 12 = .ok (.ireturn, 1) := by decide +kernel
theorem dX9_operand_13 : decode cX9_operand 13 = .ok (.aload_n 0, 1) := by decide +kernel
theorem dX9_operand_14 : decode cX9_operand 14 = .ok (.getfield 140, 3) := by decide +kernel
theorem dX9_operand_17 : decode cX9_operand 17 = .ok (.iconst 1, 1) := by decide +kernel
theorem dX9_operand_18 : decode cX9_operand 18 = .ok (.isub, 1) := by decide +kernel
theorem dX9_operand_19 : decode cX9_operand 19 = .ok (.istore_n 1, 1) := by decide +kernel
theorem dX9_operand_20 : decode cX9_operand 20 = .ok (.aload_n 0, 1) := by decide +kernel
theorem dX9_operand_21 : decode cX9_operand 21 = .ok (.getfield 124, 3) := by decide +kernel
theorem dX9_operand_24 : decode cX9_operand 24 = .ok (.iload_n 1, 1) := by decide +kernel
theorem dX9_operand_25 : decode cX9_operand 25 = .ok (.iaload, 1) := by decide +kernel
theorem dX9_operand_26 : decode cX9_operand 26 = .ok (.invokestatic 327, 3) := by decide +kernel
theorem dX9_operand_29 : decode cX9_operand 29 = .ok (.ifCond .eq 16, 3) := by decide +kernel
theorem dX9_operand_32 : decode cX9_operand 32 = .ok (.aload_n 0, 1) := by decide +kernel
theorem dX9_operand_33 : decode cX9_operand 33 = .ok (.getfield 130, 3) := by decide +kernel
theorem dX9_operand_36 : decode cX9_operand 36 = .ok (.iload_n 1, 1) := by decide +kernel
theorem dX9_operand_37 : decode cX9_operand 37 = .ok (.baload, 1) := by decide +kernel
theorem dX9_operand_38 : decode cX9_operand 38 = .ok (.ifCond .eq 7, 3) := by decide +kernel
theorem dX9_operand_41 : decode cX9_operand 41 = .ok (.iconst 1, 1) := by decide +kernel
theorem dX9_operand_42 : decode cX9_operand 42 = .ok (.goto 4, 3) := by decide +kernel
theorem dX9_operand_45 : decode cX9_operand 45 = .ok (.iconst 0, 1) := by decide +kernel
theorem dX9_operand_46 : decode cX9_operand 46 = .ok (.istore_n 2, 1) := by decide +kernel
theorem dX9_operand_47 : decode cX9_operand 47 = .ok (.iload_n 2, 1) := by decide +kernel
theorem dX9_operand_48 : decode cX9_operand 48 = .ok (.ifCond .eq 62, 3) := by decide +kernel
theorem dX9_operand_51 : decode cX9_operand 51 = .ok (.aload_n 0, 1) := by decide +kernel
theorem dX9_operand_52 : decode cX9_operand 52 = .ok (.ldc2_w 298, 3) := by decide +kernel
theorem dX9_operand_55 : decode cX9_operand 55 = .ok (.invokevirtual 330, 3) := by decide +kernel
theorem dX9_operand_58 : decode cX9_operand 58 = .ok (.ifCond .eq 52, 3) := by decide +kernel
theorem dX9_operand_61 : decode cX9_operand 61 = .ok (.aload_n 0, 1) := by decide +kernel
theorem dX9_operand_62 : decode cX9_operand 62 = .ok (.getfield 143, 3) := by decide +kernel
theorem dX9_operand_65 : decode cX9_operand 65 = .ok (.bipush 7, 2) := by decide +kernel
theorem dX9_operand_67 : decode cX9_operand 67 = .ok (.if_icmp .ne 12, 3) := by decide +kernel
theorem dX9_operand_70 : decode cX9_operand 70 = .ok (.aload_n 0, 1) := by decide +kernel
theorem dX9_operand_71 : decode cX9_operand 71 = .ok (.iconst 5, 1) := by decide +kernel
theorem dX9_operand_72 : decode cX9_operand 72 = .ok (.aload_n 0, 1) := by decide +kernel
theorem dX9_operand_73 : decode cX9_operand 73 = .ok (.getfield 23, 3) := by decide +kernel
theorem dX9_operand_76 : decode cX9_operand 76 = .ok (.invokevirtual 236, 3) := by decide +kernel
theorem dX9_operand_79 : decode cX9_operand 79 = .ok (.aload_n 0, 1) := by decide +kernel
theorem dX9_operand_80 : decode cX9_operand 80 = .ok (.getfield 36, 3) := by decide +kernel
theorem dX9_operand_83 : decode cX9_operand 83 = .ok (.ifCond .le 5, 3) := by decide +kernel
theorem dX9_operand_86 : decode cX9_operand 86 = .ok (.iconst 1, 1) := by decide +kernel
theorem dX9_operand_87 : decode cX9_operand 87 = .ok (.ireturn, 1) := by decide +kernel
theorem dX9_operand_88 : decode cX9_operand 88 = .ok (.aload_n 0, 1) := by decide +kernel
theorem dX9_operand_89 : decode cX9_operand 89 = .ok (.dup, 1) := by decide +kernel
theorem dX9_operand_90 : decode cX9_operand 90 = .ok (.getfield 143, 3) := by decide +kernel
theorem dX9_operand_93 : decode cX9_operand 93 = .ok (.iconst 1, 1) := by decide +kernel
theorem dX9_operand_94 : decode cX9_operand 94 = .ok (.iadd, 1) := by decide +kernel
theorem dX9_operand_95 : decode cX9_operand 95 = .ok (.putfield 143, 3) := by decide +kernel
theorem dX9_operand_98 : decode cX9_operand 98 = .ok (.aload_n 0, 1) := by decide +kernel
theorem dX9_operand_99 : decode cX9_operand 99 = .ok (.bipush 22, 2) := by decide +kernel
theorem dX9_operand_101 : decode cX9_operand 101 = .ok (.invokevirtual 333, 3) := by decide +kernel
theorem dX9_operand_104 : decode cX9_operand 104 = .ok (.aload_n 0, 1) := by decide +kernel
theorem dX9_operand_105 : decode cX9_operand 105 = .ok (.invokevirtual 257, 3) := by decide +kernel
theorem dX9_operand_108 : decode cX9_operand 108 = .ok (.iconst 0, 1) := by decide +kernel
theorem dX9_operand_109 : decode cX9_operand 109 = .ok (.ireturn, 1) := by decide +kernel
theorem dX9_operand_110 : decode cX9_operand 110 = .ok (.aload_n 0, 1) := by decide +kernel
theorem dX9_operand_111 : decode cX9_operand 111 = .ok (.getfield 130, 3) := by decide +kernel
theorem dX9_operand_114 : decode cX9_operand 114 = .ok (.iload_n 1, 1) := by decide +kernel
theorem dX9_operand_115 : decode cX9_operand 115 = .ok (.iconst 0, 1) := by decide +kernel
theorem dX9_operand_116 : decode cX9_operand 116 = .ok (.bastore, 1) := by decide +kernel
theorem dX9_operand_117 : decode cX9_operand 117 = .ok (.iload_n 2, 1) := by decide +kernel
theorem dX9_operand_118 : decode cX9_operand 118 = .ok (.ifCond .eq 19, 3) := by decide +kernel
theorem dX9_operand_121 : decode cX9_operand 121 = .ok (.aload_n 0, 1) := by decide +kernel
theorem dX9_operand_122 : decode cX9_operand 122 = .ok (.bipush 91, 2) := by decide +kernel
theorem dX9_operand_124 : decode cX9_operand 124 = .ok (.invokevirtual 254, 3) := by decide +kernel
theorem dX9_operand_127 : decode cX9_operand 127 = .ok (.ifCond .eq 10, 3) := by decide +kernel
theorem dX9_operand_130 : decode cX9_operand 130 = .ok (.aload_n 0, 1) := by decide +kernel
theorem dX9_operand_131 : decode cX9_operand 131 = .ok (.iconst 5, 1) := by decide +kernel
theorem dX9_operand_132 : decode cX9_operand 132 = .ok (.invokevirtual 336, 3) := by decide +kernel
theorem dX9_operand_135 : decode cX9_operand 135 = .ok (.iconst 0, 1) := by decide +kernel
theorem dX9_operand_136 : decode cX9_operand 136 = .ok (.ireturn, 1) := by decide +kernel
theorem dX9_operand_137 : decode cX9_operand 137 = .ok (.iload_n 2, 1) := by decide +kernel
theorem dX9_operand_138 : decode cX9_operand 138 = .ok (.ifCond .eq 33, 3) := by decide +kernel
theorem dX9_operand_141 : decode cX9_operand 141 = .ok (.aload_n 0, 1) := by decide +kernel
theorem dX9_operand_142 : decode cX9_operand 142 = .ok (.ldc2_w 300, 3) := by decide +kernel
theorem dX9_operand_145 : decode cX9_operand 145 = .ok (.invokevirtual 330, 3) := by decide +kernel
theorem dX9_operand_148 : decode cX9_operand 148 = .ok (.ifCond .eq 23, 3) := by decide +kernel
theorem dX9_operand_151 : decode cX9_operand 151 = .ok (.aload_n 0, 1) := by decide +kernel
theorem dX9_operand_152 : decode cX9_operand 152 = .ok (.bipush 9, 2) := by decide +kernel
theorem dX9_operand_154 : decode cX9_operand 154 = .ok (.iconst 0, 1) := by decide +kernel
theorem dX9_operand_155 : decode cX9_operand 155 = .ok (.invokevirtual 321, 3) := by decide +kernel
theorem dX9_operand_158 : decode cX9_operand 158 = .ok (.aload_n 0, 1) := by decide +kernel
theorem dX9_operand_159 : decode cX9_operand 159 = .ok (.getfield 127, 3) := by decide +kernel
theorem dX9_operand_162 : decode cX9_operand 162 = .ok (.iload_n 1, 1) := by decide +kernel
theorem dX9_operand_163 : decode cX9_operand 163 = .ok (.iconst 2, 1) := by decide +kernel
theorem dX9_operand_164 : decode cX9_operand 164 = .ok (.iastore, 1) := by decide +kernel
theorem dX9_operand_165 : decode cX9_operand 165 = .ok (.aload_n 0, 1) := by decide +kernel
theorem dX9_operand_166 : decode cX9_operand 166 = .ok (.invokevirtual 257, 3) := by decide +kernel
theorem dX9_operand_169 : decode cX9_operand 169 = .ok (.iconst 1, 1) := by decide +kernel
theorem dX9_operand_170 : decode cX9_operand 170 = .ok (.ireturn, 1) := by decide +kernel
theorem dX9_operand_171 : decode cX9_operand 171 = .ok (.aload_n 0, 1) := by decide +kernel
theorem dX9_operand_172 : decode cX9_operand 172 = .ok (.bipush 40, 2) := by decide +kernel
theorem dX9_operand_174 : decode cX9_operand 174 = .ok (.invokevirtual 254, 3) := by decide +kernel
theorem dX9_operand_177 : decode cX9_operand 177 = .ok (.ifCond .eq 10, 3) := by decide +kernel
theorem dX9_operand_180 : decode cX9_operand 180 = .ok (.aload_n 0, 1) := by decide +kernel
theorem dX9_operand_181 : decode cX9_operand 181 = .ok (.iconst 2, 1) := by decide +kernel
theorem dX9_operand_182 : decode cX9_operand 182 = .ok (.invokevirtual 336, 3) := by decide +kernel
theorem dX9_operand_185 : decode cX9_operand 185 = .ok (.iconst 0, 1) := by decide +kernel
theorem dX9_operand_186 : decode cX9_operand 186 = .ok (.ireturn, 1) := by decide +kernel
theorem dX9_operand_187 : decode cX9_operand 187 = .ok (.aload_n 0, 1) := by decide +kernel
theorem dX9_operand_188 : decode cX9_operand 188 = .ok (.ldc2_w 302, 3) := by decide +kernel
theorem dX9_operand_191 : decode cX9_operand 191 = .ok (.invokevirtual 330, 3) := by decide +kernel
theorem dX9_operand_194 : decode cX9_operand 194 = .ok (.ifCond .ne 13, 3) := by decide +kernel
theorem dX9_operand_197 : decode cX9_operand 197 = .ok (.aload_n 0, 1) := by decide +kernel
theorem dX9_operand_198 : decode cX9_operand 198 = .ok (.ldc2_w 304, 3) := by decide +kernel
theorem dX9_operand_201 : decode cX9_operand 201 = .ok (.invokevirtual 330, 3) := by decide +kernel
theorem dX9_operand_204 : decode cX9_operand 204 = .ok (.ifCond .eq 73, 3) := by decide +kernel
theorem dX9_operand_207 : decode cX9_operand 207 = .ok (.aload_n 0, 1) := by decide +kernel
theorem dX9_operand_208 : decode cX9_operand 208 = .ok (.ldc2_w 302, 3) := by decide +kernel
theorem dX9_operand_211 : decode cX9_operand 211 = .ok (.invokevirtual 330, 3) := by decide +kernel
theorem dX9_operand_214 : decode cX9_operand 214 = .ok (.ifCond .eq 8, 3) := by decide +kernel
theorem dX9_operand_217 : decode cX9_operand 217 = .ok (.bipush 15, 2) := by decide +kernel
theorem dX9_operand_219 : decode cX9_operand 219 = .ok (.goto 5, 3) := by decide +kernel
theorem dX9_operand_222 : decode cX9_operand 222 = .ok (.bipush 16, 2) := by decide +kernel
theorem dX9_operand_224 : decode cX9_operand 224 = .ok (.istore_n 3, 1) := by decide +kernel
theorem dX9_operand_225 : decode cX9_operand 225 = .ok (.aload_n 0, 1) := by decide +kernel
theorem dX9_operand_226 : decode cX9_operand 226 = .ok (.invokevirtual 257, 3) := by decide +kernel
theorem dX9_operand_229 : decode cX9_operand 229 = .ok (.aload_n 0, 1) := by decide +kernel
theorem dX9_operand_230 : decode cX9_operand 230 = .ok (.invokevirtual 251, 3) := by decide +kernel
theorem dX9_operand_233 : decode cX9_operand 233 = .ok (.aload_n 0, 1) := by decide +kernel
theorem dX9_operand_234 : decode cX9_operand 234 = .ok (.bipush 40, 2) := by decide +kernel
theorem dX9_operand_236 : decode cX9_operand 236 = .ok (.invokevirtual 254, 3) := by decide +kernel
theorem dX9_operand_239 : decode cX9_operand 239 = .ok (.ifCond .ne 12, 3) := by decide +kernel
theorem dX9_operand_242 : decode cX9_operand 242 = .ok (.aload_n 0, 1) := by decide +kernel
theorem dX9_operand_243 : decode cX9_operand 243 = .ok (.iconst 1, 1) := by decide +kernel
theorem dX9_operand_244 : decode cX9_operand 244 = .ok (.aload_n 0, 1) := by decide +kernel
theorem dX9_operand_245 : decode cX9_operand 245 = .ok (.getfield 23, 3) := by decide +kernel
theorem dX9_operand_248 : decode cX9_operand 248 = .ok (.invokevirtual 236, 3) := by decide +kernel
theorem dX9_operand_251 : decode cX9_operand 251 = .ok (.aload_n 0, 1) := by decide +kernel
theorem dX9_operand_252 : decode cX9_operand 252 = .ok (.iconst 3, 1) := by decide +kernel
theorem dX9_operand_253 : decode cX9_operand 253 = .ok (.invokevirtual 336, 3) := by decide +kernel
theorem dX9_operand_256 : decode cX9_operand 256 = .ok (.aload_n 0, 1) := by decide +kernel
theorem dX9_operand_257 : decode cX9_operand 257 = .ok (.getfield 36, 3) := by decide +kernel
theorem dX9_operand_260 : decode cX9_operand 260 = .ok (.ifCond .ne 15, 3) := by decide +kernel
theorem dX9_operand_263 : decode cX9_operand 263 = .ok (.aload_n 0, 1) := by decide +kernel
theorem dX9_operand_264 : decode cX9_operand 264 = .ok (.getfield 134, 3) := by decide +kernel
theorem dX9_operand_267 : decode cX9_operand 267 = .ok (.aload_n 0, 1) := by decide +kernel
theorem dX9_operand_268 : decode cX9_operand 268 = .ok (.getfield 140, 3) := by decide +kernel
theorem dX9_operand_271 : decode cX9_operand 271 = .ok (.iconst 1, 1) := by decide +kernel
theorem dX9_operand_272 : decode cX9_operand 272 = .ok (.isub, 1) := by decide +kernel
theorem dX9_operand_273 : decode cX9_operand 273 = .ok (.iload_n 3, 1) := by decide +kernel
theorem dX9_operand_274 : decode cX9_operand 274 = .ok (.iastore, 1) := by decide +kernel
theorem dX9_operand_275 : decode cX9_operand 275 = .ok (.iconst 0, 1) := by decide +kernel
theorem dX9_operand_276 : decode cX9_operand 276 = .ok (.ireturn, 1) := by decide +kernel
theorem dX9_operand_277 : decode cX9_operand 277 = .ok (.aload_n 0, 1) := by decide +kernel
theorem dX9_operand_278 : decode cX9_operand 278 = .ok (.getfield 20, 3) := by decide +kernel
theorem dX9_operand_281 : decode cX9_operand 281 = .ok (.iconst 2, 1) := by decide +kernel
theorem dX9_operand_282 : decode cX9_operand 282 = .ok (.if_icmp .ne 7, 3) := by decide +kernel
theorem dX9_operand_285 : decode cX9_operand 285 = .ok (.iconst 0, 1) := by decide +kernel
theorem dX9_operand_286 : decode cX9_operand 286 = .ok (.goto 89, 3) := by decide +kernel
theorem dX9_operand_289 : decode cX9_operand 289 = .ok (.aload_n 0, 1) := by decide +kernel
theorem dX9_operand_290 : decode cX9_operand 290 = .ok (.ldc2_w 266, 3) := by decide +kernel
theorem dX9_operand_293 : decode cX9_operand 293 = .ok (.invokevirtual 330, 3) := by decide +kernel
theorem dX9_operand_296 : decode cX9_operand 296 = .ok (.ifCond .eq 7, 3) := by decide +kernel
theorem dX9_operand_299 : decode cX9_operand 299 = .ok (.iconst 1, 1) := by decide +kernel
theorem dX9_operand_300 : decode cX9_operand 300 = .ok (.goto 75, 3) := by decide +kernel
theorem dX9_operand_303 : decode cX9_operand 303 = .ok (.aload_n 0, 1) := by decide +kernel
theorem dX9_operand_304 : decode cX9_operand 304 = .ok (.ldc2_w 262, 3) := by decide +kernel
theorem dX9_operand_307 : decode cX9_operand 307 = .ok (.invokevirtual 330, 3) := by decide +kernel
theorem dX9_operand_310 : decode cX9_operand 310 = .ok (.ifCond .eq 7, 3) := by decide +kernel
theorem dX9_operand_313 : decode cX9_operand 313 = .ok (.iconst 2, 1) := by decide +kernel
theorem dX9_operand_314 : decode cX9_operand 314 = .ok (.goto 61, 3) := by decide +kernel
theorem dX9_operand_317 : decode cX9_operand 317 = .ok (.aload_n 0, 1) := by decide +kernel
theorem dX9_operand_318 : decode cX9_operand 318 = .ok (.ldc2_w 286, 3) := by decide +kernel
theorem dX9_operand_321 : decode cX9_operand 321 = .ok (.invokevirtual 330, 3) := by decide +kernel
theorem dX9_operand_324 : decode cX9_operand 324 = .ok (.ifCond .eq 7, 3) := by decide +kernel
theorem dX9_operand_327 : decode cX9_operand 327 = .ok (.iconst 3, 1) := by decide +kernel
theorem dX9_operand_328 : decode cX9_operand 328 = .ok (.goto 47, 3) := by decide +kernel
theorem dX9_operand_331 : decode cX9_operand 331 = .ok (.aload_n 0, 1) := by decide +kernel
theorem dX9_operand_332 : decode cX9_operand 332 = .ok (.ldc2_w 288, 3) := by decide +kernel
theorem dX9_operand_335 : decode cX9_operand 335 = .ok (.invokevirtual 330, 3) := by decide +kernel
theorem dX9_operand_338 : decode cX9_operand 338 = .ok (.ifCond .eq 7, 3) := by decide +kernel
theorem dX9_operand_341 : decode cX9_operand 341 = .ok (.iconst 4, 1) := by decide +kernel
theorem dX9_operand_342 : decode cX9_operand 342 = .ok (.goto 33, 3) := by decide +kernel
theorem dX9_operand_345 : decode cX9_operand 345 = .ok (.aload_n 0, 1) := by decide +kernel
theorem dX9_operand_346 : decode cX9_operand 346 = .ok (.ldc2_w 290, 3) := by decide +kernel
theorem dX9_operand_349 : decode cX9_operand 349 = .ok (.invokevirtual 330, 3) := by decide +kernel
theorem dX9_operand_352 : decode cX9_operand 352 = .ok (.ifCond .eq 7, 3) := by decide +kernel
theorem dX9_operand_355 : decode cX9_operand 355 = .ok (.iconst 5, 1) := by decide +kernel
theorem dX9_operand_356 : decode cX9_operand 356 = .ok (.goto 19, 3) := by decide +kernel
theorem dX9_operand_359 : decode cX9_operand 359 = .ok (.aload_n 0, 1) := by decide +kernel
theorem dX9_operand_360 : decode cX9_operand 360 = .ok (.ldc2_w 292, 3) := by decide +kernel
theorem dX9_operand_363 : decode cX9_operand 363 = .ok (.invokevirtual 330, 3) := by decide +kernel
theorem dX9_operand_366 : decode cX9_operand 366 = .ok (.ifCond .eq 8, 3) := by decide +kernel
theorem dX9_operand_369 : decode cX9_operand 369 = .ok (.bipush 6, 2) := by decide +kernel
theorem dX9_operand_371 : decode cX9_operand 371 = .ok (.goto 4, 3) := by decide +kernel
theorem dX9_operand_374 : decode cX9_operand 374 = .ok (.iconst (-1), 1) := by decide +kernel
theorem dX9_operand_375 : decode cX9_operand 375 = .ok (.istore_n 3, 1) := by decide +kernel
theorem dX9_operand_376 : decode cX9_operand 376 = .ok (.iload_n 3, 1) := by decide +kernel
theorem dX9_operand_377 : decode cX9_operand 377 = .ok (.iconst (-1), 1) := by decide +kernel
theorem dX9_operand_378 : decode cX9_operand 378 = .ok (.if_icmp .ne 12, 3) := by decide +kernel
theorem dX9_operand_381 : decode cX9_operand 381 = .ok (.aload_n 0, 1) := by decide +kernel
theorem dX9_operand_382 : decode cX9_operand 382 = .ok (.iconst 1, 1) := by decide +kernel
theorem dX9_operand_383 : decode cX9_operand 383 = .ok (.aload_n 0, 1) := by decide +kernel
theorem dX9_operand_384 : decode cX9_operand 384 = .ok (.getfield 23, 3) := by decide +kernel
theorem dX9_operand_387 : decode cX9_operand 387 = .ok (.invokevirtual 236, 3) := by decide +kernel
theorem dX9_operand_390 : decode cX9_operand 390 = .ok (.aload_n 0, 1) := by decide +kernel
theorem dX9_operand_391 : decode cX9_operand 391 = .ok (.getfield 36, 3) := by decide +kernel
theorem dX9_operand_394 : decode cX9_operand 394 = .ok (.ifCond .le 5, 3) := by decide +kernel
theorem dX9_operand_397 : decode cX9_operand 397 = .ok (.iconst 1, 1) := by decide +kernel
theorem dX9_operand_398 : decode cX9_operand 398 = .ok (.ireturn, 1) := by decide +kernel
theorem dX9_operand_399 : decode cX9_operand 399 = .ok (.aload_n 0, 1) := by decide +kernel
theorem dX9_operand_400 : decode cX9_operand 400 = .ok (.iload_n 3, 1) := by decide +kernel
theorem dX9_operand_401 : decode cX9_operand 401 = .ok (.aload_n 0, 1) := by decide +kernel
theorem dX9_operand_402 : decode cX9_operand 402 = .ok (.getfield 29, 3) := by decide +kernel
theorem dX9_operand_405 : decode cX9_operand 405 = .ok (.invokevirtual 321, 3) := by decide +kernel
theorem dX9_operand_408 : decode cX9_operand 408 = .ok (.aload_n 0, 1) := by decide +kernel
theorem dX9_operand_409 : decode cX9_operand 409 = .ok (.invokevirtual 257, 3) := by decide +kernel
theorem dX9_operand_412 : decode cX9_operand 412 = .ok (.iconst 1, 1) := by decide +kernel
theorem dX9_operand_413 : decode cX9_operand 413 = .ok (.ireturn, 1) := by decide +kernel
theorem dX9_goesOn_0 : decode cX9_goesOn 0 = .ok (.aload_n 0, 1) := by decide +kernel
theorem dX9_goesOn_1 : decode cX9_goesOn 1 = .ok (.invokevirtual 251, 3) := by decide +kernel
theorem dX9_goesOn_4 : decode cX9_goesOn 4 = .ok (.aload_n 0, 1) := by decide +kernel
theorem dX9_goesOn_5 : decode cX9_goesOn 5 = .ok (.getfield 36, 3) := by decide +kernel
theorem dX9_goesOn_8 : decode cX9_goesOn 8 = .ok (.ifCond .le 5, 3) := by decide +kernel
theorem dX9_goesOn_11 : decode cX9_goesOn 11 = .ok (.iconst 0, 1) := by decide +kernel
theorem dX9_goesOn_12 : decode cX9_goesOn 12 = .ok (.ireturn, 1) := by decide +kernel
theorem dX9_goesOn_13 : decode cX9_goesOn 13 = .ok (.aload_n 0, 1) := by decide +kernel
theorem dX9_goesOn_14 : decode cX9_goesOn 14 = .ok (.getfield 140, 3) := by decide +kernel
theorem dX9_goesOn_17 : decode cX9_goesOn 17 = .ok (.iconst 1, 1) := by decide +kernel
theorem dX9_goesOn_18 : decode cX9_goesOn 18 = .ok (.isub, 1) := by decide +kernel
theorem dX9_goesOn_19 : decode cX9_goesOn 19 = .ok (.istore_n 1, 1) := by decide +kernel
theorem dX9_goesOn_20 : decode cX9_goesOn 20 = .ok (.aload_n 0, 1) := by decide +kernel
theorem dX9_goesOn_21 : decode cX9_goesOn 21 = .ok (.getfield 124, 3) := by decide +kernel
theorem dX9_goesOn_24 : decode cX9_goesOn 24 = .ok (.iload_n 1, 1) := by decide +kernel
theorem dX9_goesOn_25 : decode cX9_goesOn 25 = .ok (.iaload, 1) := by decide +kernel
theorem dX9_goesOn_26 : decode cX9_goesOn 26 = .ok (.istore_n 2, 1) := by decide +kernel
theorem dX9_goesOn_27 : decode cX9_goesOn 27 = .ok (.iload_n 2, 1) := by decide +kernel
theorem dX9_goesOn_28 : decode cX9_goesOn 28 = .ok (.invokestatic 327, 3) := by decide +kernel
theorem dX9_goesOn_31 : decode cX9_goesOn 31 = .ok (.istore_n 3, 1) := by decide +kernel
theorem dX9_goesOn_32 : decode cX9_goesOn 32 = .ok (.aload_n 0, 1) := by decide +kernel
theorem dX9_goesOn_33 : decode cX9_goesOn 33 = .ok (.getfield 127, 3) := by decide +kernel
theorem dX9_goesOn_36 : decode cX9_goesOn 36 = .ok (.iload_n 1, 1) := by decide +kernel
theorem dX9_goesOn_37 : decode cX9_goesOn 37 = .ok (.iaload, 1) := by decide +kernel
theorem dX9_goesOn_38 : decode cX9_goesOn 38 = .ok (.iconst 2, 1) := by decide +kernel
theorem dX9_goesOn_39 : decode cX9_goesOn 39 = .ok (.if_icmp .ge 149, 3) := by decide +kernel
theorem dX9_goesOn_42 : decode cX9_goesOn 42 = .ok (.aload_n 0, 1) := by decide +kernel
theorem dX9_goesOn_43 : decode cX9_goesOn 43 = .ok (.bipush 43, 2) := by decide +kernel
theorem dX9_goesOn_45 : decode cX9_goesOn 45 = .ok (.invokevirtual 254, 3) := by decide +kernel
theorem dX9_goesOn_48 : decode cX9_goesOn 48 = .ok (.ifCond .ne 39, 3) := by decide +kernel
theorem dX9_goesOn_51 : decode cX9_goesOn 51 = .ok (.aload_n 0, 1) := by decide +kernel
theorem dX9_goesOn_52 : decode cX9_goesOn 52 = .ok (.bipush 45, 2) := by decide +kernel
theorem dX9_goesOn_54 : decode cX9_goesOn 54 = .ok (.invokevirtual 254, 3) := by decide +kernel
theorem dX9_goesOn_57 : decode cX9_goesOn 57 = .ok (.ifCond .ne 30, 3) := by decide +kernel
theorem dX9_goesOn_60 : decode cX9_goesOn 60 = .ok (.aload_n 0, 1) := by decide +kernel
theorem dX9_goesOn_61 : decode cX9_goesOn 61 = .ok (.bipush 42, 2) := by decide +kernel
theorem dX9_goesOn_63 : decode cX9_goesOn 63 = .ok (.invokevirtual 254, 3) := by decide +kernel
theorem dX9_goesOn_66 : decode cX9_goesOn 66 = .ok (.ifCond .ne 21, 3) := by decide +kernel
theorem dX9_goesOn_69 : decode cX9_goesOn 69 = .ok (.aload_n 0, 1) := by decide +kernel
theorem dX9_goesOn_70 : decode cX9_goesOn 70 = .ok (.bipush 47, 2) := by decide +kernel
theorem dX9_goesOn_72 : decode cX9_goesOn 72 = .ok (.invokevirtual 254, 3) := by decide +kernel
theorem dX9_goesOn_75 : decode cX9_goesOn 75 = .ok (.ifCond .ne 12, 3) := by decide +kernel
theorem dX9_goesOn_78 : decode cX9_goesOn 78 = .ok (.aload_n 0, 1) := by decide +kernel
theorem dX9_goesOn_79 : decode cX9_goesOn 79 = .ok (.bipush 37, 2) := by decide +kernel
theorem dX9_goesOn_81 : decode cX9_goesOn 81 = .ok (.invokevirtual 254, 3) := by decide +kernel
theorem dX9_goesOn_84 : decode cX9_goesOn 84 = .ok (.ifCond .eq 104, 3) := by decide +kernel
theorem dX9_goesOn_87 : decode cX9_goesOn 87 = .ok (.aload_n 0, 1) := by decide +kernel
theorem dX9_goesOn_88 : decode cX9_goesOn 88 = .ok (.aload_n 0, 1) := by decide +kernel
theorem dX9_goesOn_89 : decode cX9_goesOn 89 = .ok (.bipush 43, 2) := by decide +kernel
theorem dX9_goesOn_91 : decode cX9_goesOn 91 = .ok (.invokevirtual 254, 3) := by decide +kernel
theorem dX9_goesOn_94 : decode cX9_goesOn 94 = .ok (.ifCond .ne 12, 3) := by decide +kernel
theorem dX9_goesOn_97 : decode cX9_goesOn 97 = .ok (.aload_n 0, 1) := by decide +kernel
theorem dX9_goesOn_98 : decode cX9_goesOn 98 = .ok (.bipush 45, 2) := by decide +kernel
theorem dX9_goesOn_100 : decode cX9_goesOn 100 = .ok (.invokevirtual 254, 3) := by decide +kernel
theorem dX9_goesOn_103 : decode cX9_goesOn 103 = .ok (.ifCond .eq 7, 3) := by decide +kernel
theorem dX9_goesOn_106 : decode cX9_goesOn 106 = .ok (.iconst 5, 1) := by decide +kernel
theorem dX9_goesOn_107 : decode cX9_goesOn 107 = .ok (.goto 5, 3) := by decide +kernel
theorem dX9_goesOn_110 : decode cX9_goesOn 110 = .ok (.bipush 6, 2) := by decide +kernel
theorem dX9_goesOn_112 : decode cX9_goesOn 112 = .ok (.invokevirtual 339, 3) := by decide +kernel
theorem dX9_goesOn_115 : decode cX9_goesOn 115 = .ok (.aload_n 0, 1) := by decide +kernel
theorem dX9_goesOn_116 : decode cX9_goesOn 116 = .ok (.aload_n 0, 1) := by decide +kernel
theorem dX9_goesOn_117 : decode cX9_goesOn 117 = .ok (.bipush 43, 2) := by decide +kernel
theorem dX9_goesOn_119 : decode cX9_goesOn 119 = .ok (.invokevirtual 254, 3) := by decide +kernel
theorem dX9_goesOn_122 : decode cX9_goesOn 122 = .ok (.ifCond .eq 8, 3) := by decide +kernel
theorem dX9_goesOn_125 : decode cX9_goesOn 125 = .ok (.bipush 10, 2) := by decide +kernel
theorem dX9_goesOn_127 : decode cX9_goesOn 127 = .ok (.goto 47, 3) := by decide +kernel
theorem dX9_goesOn_130 : decode cX9_goesOn 130 = .ok (.aload_n 0, 1) := by decide +kernel
theorem dX9_goesOn_131 : decode cX9_goesOn 131 = .ok (.bipush 45, 2) := by decide +kernel
theorem dX9_goesOn_133 : decode cX9_goesOn 133 = .ok (.invokevirtual 254, 3) := by decide +kernel
theorem dX9_goesOn_136 : decode cX9_goesOn 136 = .ok (.ifCond .eq 8, 3) := by decide +kernel
theorem dX9_goesOn_139 : decode cX9_goesOn 139 = .ok (.bipush 11, 2) := by decide +kernel
theorem dX9_goesOn_141 : decode cX9_goesOn 141 = .ok (.goto 33, 3) := by decide +kernel
theorem dX9_goesOn_144 : decode cX9_goesOn 144 = .ok (.aload_n 0, 1) := by decide +kernel
theorem dX9_goesOn_145 : decode cX9_goesOn 145 = .ok (.bipush 42, 2) := by decide +kernel
theorem dX9_goesOn_147 : decode cX9_goesOn 147 = .ok (.invokevirtual 254, 3) := by decide +kernel
theorem dX9_goesOn_150 : decode cX9_goesOn 150 = .ok (.ifCond .eq 8, 3) := by decide +kernel
theorem dX9_goesOn_153 : decode cX9_goesOn 153 = .ok (.bipush 12, 2) := by decide +kernel
theorem dX9_goesOn_155 : decode cX9_goesOn 155 = .ok (.goto 19, 3) := by decide +kernel
theorem dX9_goesOn_158 : decode cX9_goesOn 158 = .ok (.aload_n 0, 1) := by decide +kernel
theorem dX9_goesOn_159 : decode cX9_goesOn 159 = .ok (.bipush 47, 2) := by decide +kernel
theorem dX9_goesOn_161 : decode cX9_goesOn 161 = .ok (.invokevirtual 254, 3) := by decide +kernel
theorem dX9_goesOn_164 : decode cX9_goesOn 164 = .ok (.ifCond .eq 8, 3) := by decide +kernel
theorem dX9_goesOn_167 : decode cX9_goesOn 167 = .ok (.bipush 13, 2) := by decide +kernel
theorem dX9_goesOn_169 : decode cX9_goesOn 169 = .ok (.goto 5, 3) := by decide +kernel
theorem dX9_goesOn_172 : decode cX9_goesOn 172 = .ok (.bipush 14, 2) := by decide +kernel
theorem dX9_goesOn_174 : decode cX9_goesOn 174 = .ok (.invokevirtual 333, 3) := by decide +kernel
theorem dX9_goesOn_177 : decode cX9_goesOn 177 = .ok (.aload_n 0, 1) := by decide +kernel
theorem dX9_goesOn_178 : decode cX9_goesOn 178 = .ok (.invokevirtual 257, 3) := by decide +kernel
theorem dX9_goesOn_181 : decode cX9_goesOn 181 = .ok (.aload_n 0, 1) := by decide +kernel
theorem dX9_goesOn_182 : decode cX9_goesOn 182 = .ok (.iconst 0, 1) := by decide +kernel
theorem dX9_goesOn_183 : decode cX9_goesOn 183 = .ok (.putfield 152, 3) := by decide +kernel
theorem dX9_goesOn_186 : decode cX9_goesOn 186 = .ok (.iconst 1, 1) := by decide +kernel
theorem dX9_goesOn_187 : decode cX9_goesOn 187 = .ok (.ireturn, 1) := by decide +kernel
theorem dX9_goesOn_188 : decode cX9_goesOn 188 = .ok (.iload_n 3, 1) := by decide +kernel
theorem dX9_goesOn_189 : decode cX9_goesOn 189 = .ok (.ifCond .eq 96, 3) := by decide +kernel
theorem dX9_goesOn_192 : decode cX9_goesOn 192 = .ok (.aload_n 0, 1) := by decide +kernel
theorem dX9_goesOn_193 : decode cX9_goesOn 193 = .ok (.getfield 127, 3) := by decide +kernel
theorem dX9_goesOn_196 : decode cX9_goesOn 196 = .ok (.iload_n 1, 1) := by decide +kernel
theorem dX9_goesOn_197 : decode cX9_goesOn 197 = .ok (.iaload, 1) := by decide +kernel
theorem dX9_goesOn_198 : decode cX9_goesOn 198 = .ok (.ifCond .ne 87, 3) := by decide +kernel
theorem dX9_goesOn_201 : decode cX9_goesOn 201 = .ok (.aload_n 0, 1) := by decide +kernel
theorem dX9_goesOn_202 : decode cX9_goesOn 202 = .ok (.bipush 60, 2) := by decide +kernel
theorem dX9_goesOn_204 : decode cX9_goesOn 204 = .ok (.invokevirtual 254, 3) := by decide +kernel
theorem dX9_goesOn_207 : decode cX9_goesOn 207 = .ok (.ifCond .ne 21, 3) := by decide +kernel
theorem dX9_goesOn_210 : decode cX9_goesOn 210 = .ok (.aload_n 0, 1) := by decide +kernel
theorem dX9_goesOn_211 : decode cX9_goesOn 211 = .ok (.bipush 62, 2) := by decide +kernel
theorem dX9_goesOn_213 : decode cX9_goesOn 213 = .ok (.invokevirtual 254, 3) := by decide +kernel
theorem dX9_goesOn_216 : decode cX9_goesOn 216 = .ok (.ifCond .ne 12, 3) := by decide +kernel
theorem dX9_goesOn_219 : decode cX9_goesOn 219 = .ok (.aload_n 0, 1) := by decide +kernel
theorem dX9_goesOn_220 : decode cX9_goesOn 220 = .ok (.bipush 61, 2) := by decide +kernel
theorem dX9_goesOn_222 : decode cX9_goesOn 222 = .ok (.invokevirtual 254, 3) := by decide +kernel
theorem dX9_goesOn_225 : decode cX9_goesOn 225 = .ok (.ifCond .eq 60, 3) := by decide +kernel
theorem dX9_goesOn_228 : decode cX9_goesOn 228 = .ok (.aload_n 0, 1) := by decide +kernel
theorem dX9_goesOn_229 : decode cX9_goesOn 229 = .ok (.iconst 5, 1) := by decide +kernel
theorem dX9_goesOn_230 : decode cX9_goesOn 230 = .ok (.invokevirtual 339, 3) := by decide +kernel
theorem dX9_goesOn_233 : decode cX9_goesOn 233 = .ok (.aload_n 0, 1) := by decide +kernel
theorem dX9_goesOn_234 : decode cX9_goesOn 234 = .ok (.aload_n 0, 1) := by decide +kernel
theorem dX9_goesOn_235 : decode cX9_goesOn 235 = .ok (.bipush 60, 2) := by decide +kernel
theorem dX9_goesOn_237 : decode cX9_goesOn 237 = .ok (.invokevirtual 254, 3) := by decide +kernel
theorem dX9_goesOn_240 : decode cX9_goesOn 240 = .ok (.ifCond .eq 8, 3) := by decide +kernel
theorem dX9_goesOn_243 : decode cX9_goesOn 243 = .ok (.bipush 17, 2) := by decide +kernel
theorem dX9_goesOn_245 : decode cX9_goesOn 245 = .ok (.goto 19, 3) := by decide +kernel
theorem dX9_goesOn_248 : decode cX9_goesOn 248 = .ok (.aload_n 0, 1) := by decide +kernel
theorem dX9_goesOn_249 : decode cX9_goesOn 249 = .ok (.bipush 62, 2) := by decide +kernel
theorem dX9_goesOn_251 : decode cX9_goesOn 251 = .ok (.invokevirtual 254, 3) := by decide +kernel
theorem dX9_goesOn_254 : decode cX9_goesOn 254 = .ok (.ifCond .eq 8, 3) := by decide +kernel
theorem dX9_goesOn_257 : decode cX9_goesOn 257 = .ok (.bipush 18, 2) := by decide +kernel
theorem dX9_goesOn_259 : decode cX9_goesOn 259 = .ok (.goto 5, 3) := by decide +kernel
theorem dX9_goesOn_262 : decode cX9_goesOn 262 = .ok (.bipush 19, 2) := by decide +kernel
theorem dX9_goesOn_264 : decode cX9_goesOn 264 = .ok (.invokevirtual 333, 3) := by decide +kernel
theorem dX9_goesOn_267 : decode cX9_goesOn 267 = .ok (.aload_n 0, 1) := by decide +kernel
theorem dX9_goesOn_268 : decode cX9_goesOn 268 = .ok (.getfield 127, 3) := by decide +kernel
theorem dX9_goesOn_271 : decode cX9_goesOn 271 = .ok (.iload_n 1, 1) := by decide +kernel
theorem dX9_goesOn_272 : decode cX9_goesOn 272 = .ok (.iconst 1, 1) := by decide +kernel
theorem dX9_goesOn_273 : decode cX9_goesOn 273 = .ok (.iastore, 1) := by decide +kernel
theorem dX9_goesOn_274 : decode cX9_goesOn 274 = .ok (.aload_n 0, 1) := by decide +kernel
theorem dX9_goesOn_275 : decode cX9_goesOn 275 = .ok (.invokevirtual 257, 3) := by decide +kernel
theorem dX9_goesOn_278 : decode cX9_goesOn 278 = .ok (.aload_n 0, 1) := by decide +kernel
theorem dX9_goesOn_279 : decode cX9_goesOn 279 = .ok (.iconst 0, 1) := by decide +kernel
theorem dX9_goesOn_280 : decode cX9_goesOn 280 = .ok (.putfield 152, 3) := by decide +kernel
theorem dX9_goesOn_283 : decode cX9_goesOn 283 = .ok (.iconst 1, 1) := by decide +kernel
theorem dX9_goesOn_284 : decode cX9_goesOn 284 = .ok (.ireturn, 1) := by decide +kernel
theorem dX9_goesOn_285 : decode cX9_goesOn 285 = .ok (.iload_n 3, 1) := by decide +kernel
theorem dX9_goesOn_286 : decode cX9_goesOn 286 = .ok (.ifCond .eq 114, 3) := by decide +kernel
theorem dX9_goesOn_289 : decode cX9_goesOn 289 = .ok (.aload_n 0, 1) := by decide +kernel
theorem dX9_goesOn_290 : decode cX9_goesOn 290 = .ok (.ldc2_w 296, 3) := by decide +kernel
theorem dX9_goesOn_293 : decode cX9_goesOn 293 = .ok (.invokevirtual 330, 3) := by decide +kernel
theorem dX9_goesOn_296 : decode cX9_goesOn 296 = .ok (.ifCond .ne 13, 3) := by decide +kernel
theorem dX9_goesOn_299 : decode cX9_goesOn 299 = .ok (.aload_n 0, 1) := by decide +kernel
theorem dX9_goesOn_300 : decode cX9_goesOn 300 = .ok (.ldc2_w 294, 3) := by decide +kernel
theorem dX9_goesOn_303 : decode cX9_goesOn 303 = .ok (.invokevirtual 330, 3) := by decide +kernel
theorem dX9_goesOn_306 : decode cX9_goesOn 306 = .ok (.ifCond .eq 94, 3) := by decide +kernel
theorem dX9_goesOn_309 : decode cX9_goesOn 309 = .ok (.aload_n 0, 1) := by decide +kernel
theorem dX9_goesOn_310 : decode cX9_goesOn 310 = .ok (.getfield 127, 3) := by decide +kernel
theorem dX9_goesOn_313 : decode cX9_goesOn 313 = .ok (.iload_n 1, 1) := by decide +kernel
theorem dX9_goesOn_314 : decode cX9_goesOn 314 = .ok (.iaload, 1) := by decide +kernel
theorem dX9_goesOn_315 : decode cX9_goesOn 315 = .ok (.ifCond .ne 12, 3) := by decide +kernel
theorem dX9_goesOn_318 : decode cX9_goesOn 318 = .ok (.aload_n 0, 1) := by decide +kernel
theorem dX9_goesOn_319 : decode cX9_goesOn 319 = .ok (.iconst 1, 1) := by decide +kernel
theorem dX9_goesOn_320 : decode cX9_goesOn 320 = .ok (.aload_n 0, 1) := by decide +kernel
theorem dX9_goesOn_321 : decode cX9_goesOn 321 = .ok (.getfield 23, 3) := by decide +kernel
theorem dX9_goesOn_324 : decode cX9_goesOn 324 = .ok (.invokevirtual 236, 3) := by decide +kernel
theorem dX9_goesOn_327 : decode cX9_goesOn 327 = .ok (.aload_n 0, 1) := by decide +kernel
theorem dX9_goesOn_328 : decode cX9_goesOn 328 = .ok (.getfield 36, 3) := by decide +kernel
theorem dX9_goesOn_331 : decode cX9_goesOn 331 = .ok (.ifCond .le 5, 3) := by decide +kernel
theorem dX9_goesOn_334 : decode cX9_goesOn 334 = .ok (.iconst 0, 1) := by decide +kernel
theorem dX9_goesOn_335 : decode cX9_goesOn 335 = .ok (.ireturn, 1) := by decide +kernel
theorem dX9_goesOn_336 : decode cX9_goesOn 336 = .ok (.aload_n 0, 1) := by decide +kernel
theorem dX9_goesOn_337 : decode cX9_goesOn 337 = .ok (.ldc2_w 296, 3) := by decide +kernel
theorem dX9_goesOn_340 : decode cX9_goesOn 340 = .ok (.invokevirtual 330, 3) := by decide +kernel
theorem dX9_goesOn_343 : decode cX9_goesOn 343 = .ok (.istore 4, 2) := by decide +kernel
theorem dX9_goesOn_345 : decode cX9_goesOn 345 = .ok (.aload_n 0, 1) := by decide +kernel
theorem dX9_goesOn_346 : decode cX9_goesOn 346 = .ok (.iload 4, 2) := by decide +kernel
theorem dX9_goesOn_348 : decode cX9_goesOn 348 = .ok (.ifCond .eq 7, 3) := by decide +kernel
theorem dX9_goesOn_351 : decode cX9_goesOn 351 = .ok (.iconst 2, 1) := by decide +kernel
theorem dX9_goesOn_352 : decode cX9_goesOn 352 = .ok (.goto 4, 3) := by decide +kernel
theorem dX9_goesOn_355 : decode cX9_goesOn 355 = .ok (.iconst 1, 1) := by decide +kernel
theorem dX9_goesOn_356 : decode cX9_goesOn 356 = .ok (.invokevirtual 339, 3) := by decide +kernel
theorem dX9_goesOn_359 : decode cX9_goesOn 359 = .ok (.aload_n 0, 1) := by decide +kernel
theorem dX9_goesOn_360 : decode cX9_goesOn 360 = .ok (.iload 4, 2) := by decide +kernel
theorem dX9_goesOn_362 : decode cX9_goesOn 362 = .ok (.ifCond .eq 8, 3) := by decide +kernel
theorem dX9_goesOn_365 : decode cX9_goesOn 365 = .ok (.bipush 20, 2) := by decide +kernel
theorem dX9_goesOn_367 : decode cX9_goesOn 367 = .ok (.goto 5, 3) := by decide +kernel
theorem dX9_goesOn_370 : decode cX9_goesOn 370 = .ok (.bipush 21, 2) := by decide +kernel
theorem dX9_goesOn_372 : decode cX9_goesOn 372 = .ok (.invokevirtual 333, 3) := by decide +kernel
theorem dX9_goesOn_375 : decode cX9_goesOn 375 = .ok (.aload_n 0, 1) := by decide +kernel
theorem dX9_goesOn_376 : decode cX9_goesOn 376 = .ok (.getfield 127, 3) := by decide +kernel
theorem dX9_goesOn_379 : decode cX9_goesOn 379 = .ok (.iload_n 1, 1) := by decide +kernel
theorem dX9_goesOn_380 : decode cX9_goesOn 380 = .ok (.iconst 0, 1) := by decide +kernel
theorem dX9_goesOn_381 : decode cX9_goesOn 381 = .ok (.iastore, 1) := by decide +kernel
theorem dX9_goesOn_382 : decode cX9_goesOn 382 = .ok (.aload_n 0, 1) := by decide +kernel
theorem dX9_goesOn_383 : decode cX9_goesOn 383 = .ok (.getfield 130, 3) := by decide +kernel
theorem dX9_goesOn_386 : decode cX9_goesOn 386 = .ok (.iload_n 1, 1) := by decide +kernel
theorem dX9_goesOn_387 : decode cX9_goesOn 387 = .ok (.iconst 1, 1) := by decide +kernel
theorem dX9_goesOn_388 : decode cX9_goesOn 388 = .ok (.bastore, 1) := by decide +kernel
theorem dX9_goesOn_389 : decode cX9_goesOn 389 = .ok (.aload_n 0, 1) := by decide +kernel
theorem dX9_goesOn_390 : decode cX9_goesOn 390 = .ok (.invokevirtual 257, 3) := by decide +kernel
theorem dX9_goesOn_393 : decode cX9_goesOn 393 = .ok (.aload_n 0, 1) := by decide +kernel
theorem dX9_goesOn_394 : decode cX9_goesOn 394 = .ok (.iconst 0, 1) := by decide +kernel
theorem dX9_goesOn_395 : decode cX9_goesOn 395 = .ok (.putfield 152, 3) := by decide +kernel
theorem dX9_goesOn_398 : decode cX9_goesOn 398 = .ok (.iconst 1, 1) := by decide +kernel
theorem dX9_goesOn_399 : decode cX9_goesOn 399 = .ok (.ireturn, 1) := by decide +kernel
theorem dX9_goesOn_400 : decode cX9_goesOn 400 = .ok (.iload_n 3, 1) := by decide +kernel
theorem dX9_goesOn_401 : decode cX9_goesOn 401 = .ok (.ifCond .eq 21, 3) := by decide +kernel
theorem dX9_goesOn_404 : decode cX9_goesOn 404 = .ok (.aload_n 0, 1) := by decide +kernel
theorem dX9_goesOn_405 : decode cX9_goesOn 405 = .ok (.getfield 127, 3) := by decide +kernel
theorem dX9_goesOn_408 : decode cX9_goesOn 408 = .ok (.iload_n 1, 1) := by decide +kernel
theorem dX9_goesOn_409 : decode cX9_goesOn 409 = .ok (.iaload, 1) := by decide +kernel
theorem dX9_goesOn_410 : decode cX9_goesOn 410 = .ok (.ifCond .ne 12, 3) := by decide +kernel
theorem dX9_goesOn_413 : decode cX9_goesOn 413 = .ok (.aload_n 0, 1) := by decide +kernel
theorem dX9_goesOn_414 : decode cX9_goesOn 414 = .ok (.iconst 1, 1) := by decide +kernel
theorem dX9_goesOn_415 : decode cX9_goesOn 415 = .ok (.aload_n 0, 1) := by decide +kernel
theorem dX9_goesOn_416 : decode cX9_goesOn 416 = .ok (.getfield 23, 3) := by decide +kernel
theorem dX9_goesOn_419 : decode cX9_goesOn 419 = .ok (.invokevirtual 236, 3) := by decide +kernel
theorem dX9_goesOn_422 : decode cX9_goesOn 422 = .ok (.iload_n 2, 1) := by decide +kernel
theorem dX9_goesOn_423 : decode cX9_goesOn 423 = .ok (.iconst 2, 1) := by decide +kernel
theorem dX9_goesOn_424 : decode cX9_goesOn 424 = .ok (.if_icmp .ge 17, 3) := by decide +kernel
theorem dX9_goesOn_427 : decode cX9_goesOn 427 = .ok (.aload_n 0, 1) := by decide +kernel
theorem dX9_goesOn_428 : decode cX9_goesOn 428 = .ok (.getfield 36, 3) := by decide +kernel
theorem dX9_goesOn_431 : decode cX9_goesOn 431 = .ok (.ifCond .ne 8, 3) := by decide +kernel
theorem dX9_goesOn_434 : decode cX9_goesOn 434 = .ok (.aload_n 0, 1) := by decide +kernel
theorem dX9_goesOn_435 : decode cX9_goesOn 435 = .ok (.iconst 1, 1) := by decide +kernel
theorem dX9_goesOn_436 : decode cX9_goesOn 436 = .ok (.invokevirtual 339, 3) := by decide +kernel
theorem dX9_goesOn_439 : decode cX9_goesOn 439 = .ok (.iconst 0, 1) := by decide +kernel
theorem dX9_goesOn_440 : decode cX9_goesOn 440 = .ok (.ireturn, 1) := by decide +kernel
theorem dX9_goesOn_441 : decode cX9_goesOn 441 = .ok (.iload_n 2, 1) := by decide +kernel
theorem dX9_goesOn_442 : decode cX9_goesOn 442 = .ok (.iconst 3, 1) := by decide +kernel
theorem dX9_goesOn_443 : decode cX9_goesOn 443 = .ok (.if_icmp .ne 53, 3) := by decide +kernel
theorem dX9_goesOn_446 : decode cX9_goesOn 446 = .ok (.aload_n 0, 1) := by decide +kernel
theorem dX9_goesOn_447 : decode cX9_goesOn 447 = .ok (.bipush 44, 2) := by decide +kernel
theorem dX9_goesOn_449 : decode cX9_goesOn 449 = .ok (.invokevirtual 254, 3) := by decide +kernel
theorem dX9_goesOn_452 : decode cX9_goesOn 452 = .ok (.ifCond .ne 12, 3) := by decide +kernel
theorem dX9_goesOn_455 : decode cX9_goesOn 455 = .ok (.aload_n 0, 1) := by decide +kernel
theorem dX9_goesOn_456 : decode cX9_goesOn 456 = .ok (.iconst 1, 1) := by decide +kernel
theorem dX9_goesOn_457 : decode cX9_goesOn 457 = .ok (.aload_n 0, 1) := by decide +kernel
theorem dX9_goesOn_458 : decode cX9_goesOn 458 = .ok (.getfield 23, 3) := by decide +kernel
theorem dX9_goesOn_461 : decode cX9_goesOn 461 = .ok (.invokevirtual 236, 3) := by decide +kernel
theorem dX9_goesOn_464 : decode cX9_goesOn 464 = .ok (.aload_n 0, 1) := by decide +kernel
theorem dX9_goesOn_465 : decode cX9_goesOn 465 = .ok (.getfield 36, 3) := by decide +kernel
theorem dX9_goesOn_468 : decode cX9_goesOn 468 = .ok (.ifCond .le 5, 3) := by decide +kernel
theorem dX9_goesOn_471 : decode cX9_goesOn 471 = .ok (.iconst 0, 1) := by decide +kernel
theorem dX9_goesOn_472 : decode cX9_goesOn 472 = .ok (.ireturn, 1) := by decide +kernel
theorem dX9_goesOn_473 : decode cX9_goesOn 473 = .ok (.aload_n 0, 1) := by decide +kernel
theorem dX9_goesOn_474 : decode cX9_goesOn 474 = .ok (.iconst 1, 1) := by decide +kernel
theorem dX9_goesOn_475 : decode cX9_goesOn 475 = .ok (.invokevirtual 339, 3) := by decide +kernel
theorem dX9_goesOn_478 : decode cX9_goesOn 478 = .ok (.aload_n 0, 1) := by decide +kernel
theorem dX9_goesOn_479 : decode cX9_goesOn 479 = .ok (.getfield 124, 3) := by decide +kernel
theorem dX9_goesOn_482 : decode cX9_goesOn 482 = .ok (.iload_n 1, 1) := by decide +kernel
theorem dX9_goesOn_483 : decode cX9_goesOn 483 = .ok (.iconst 4, 1) := by decide +kernel
theorem dX9_goesOn_484 : decode cX9_goesOn 484 = .ok (.iastore, 1) := by decide +kernel
theorem dX9_goesOn_485 : decode cX9_goesOn 485 = .ok (.aload_n 0, 1) := by decide +kernel
theorem dX9_goesOn_486 : decode cX9_goesOn 486 = .ok (.invokevirtual 257, 3) := by decide +kernel
theorem dX9_goesOn_489 : decode cX9_goesOn 489 = .ok (.aload_n 0, 1) := by decide +kernel
theorem dX9_goesOn_490 : decode cX9_goesOn 490 = .ok (.iconst 0, 1) := by decide +kernel
theorem dX9_goesOn_491 : decode cX9_goesOn 491 = .ok (.putfield 152, 3) := by decide +kernel
theorem dX9_goesOn_494 : decode cX9_goesOn 494 = .ok (.iconst 1, 1) := by decide +kernel
theorem dX9_goesOn_495 : decode cX9_goesOn 495 = .ok (.ireturn, 1) := by decide +kernel
theorem dX9_goesOn_496 : decode cX9_goesOn 496 = .ok (.aload_n 0, 1) := by decide +kernel
theorem dX9_goesOn_497 : decode cX9_goesOn 497 = .ok (.iload_n 2, 1) := by decide +kernel
theorem dX9_goesOn_498 : decode cX9_goesOn 498 = .ok (.iconst 5, 1) := by decide +kernel
theorem dX9_goesOn_499 : decode cX9_goesOn 499 = .ok (.if_icmp .ne 8, 3) := by decide +kernel
theorem dX9_goesOn_502 : decode cX9_goesOn 502 = .ok (.bipush 93, 2) := by decide +kernel
theorem dX9_goesOn_504 : decode cX9_goesOn 504 = .ok (.goto 5, 3) := by decide +kernel
theorem dX9_goesOn_507 : decode cX9_goesOn 507 = .ok (.bipush 41, 2) := by decide +kernel
theorem dX9_goesOn_509 : decode cX9_goesOn 509 = .ok (.invokevirtual 254, 3) := by decide +kernel
theorem dX9_goesOn_512 : decode cX9_goesOn 512 = .ok (.ifCond .ne 12, 3) := by decide +kernel
theorem dX9_goesOn_515 : decode cX9_goesOn 515 = .ok (.aload_n 0, 1) := by decide +kernel
theorem dX9_goesOn_516 : decode cX9_goesOn 516 = .ok (.iconst 1, 1) := by decide +kernel
theorem dX9_goesOn_517 : decode cX9_goesOn 517 = .ok (.aload_n 0, 1) := by decide +kernel
theorem dX9_goesOn_518 : decode cX9_goesOn 518 = .ok (.getfield 23, 3) := by decide +kernel
theorem dX9_goesOn_521 : decode cX9_goesOn 521 = .ok (.invokevirtual 236, 3) := by decide +kernel
theorem dX9_goesOn_524 : decode cX9_goesOn 524 = .ok (.aload_n 0, 1) := by decide +kernel
theorem dX9_goesOn_525 : decode cX9_goesOn 525 = .ok (.getfield 36, 3) := by decide +kernel
theorem dX9_goesOn_528 : decode cX9_goesOn 528 = .ok (.ifCond .le 5, 3) := by decide +kernel
theorem dX9_goesOn_531 : decode cX9_goesOn 531 = .ok (.iconst 0, 1) := by decide +kernel
theorem dX9_goesOn_532 : decode cX9_goesOn 532 = .ok (.ireturn, 1) := by decide +kernel
theorem dX9_goesOn_533 : decode cX9_goesOn 533 = .ok (.aload_n 0, 1) := by decide +kernel
theorem dX9_goesOn_534 : decode cX9_goesOn 534 = .ok (.iconst 1, 1) := by decide +kernel
theorem dX9_goesOn_535 : decode cX9_goesOn 535 = .ok (.invokevirtual 339, 3) := by decide +kernel
theorem dX9_goesOn_538 : decode cX9_goesOn 538 = .ok (.aload_n 0, 1) := by decide +kernel
theorem dX9_goesOn_539 : decode cX9_goesOn 539 = .ok (.dup, 1) := by decide +kernel
theorem dX9_goesOn_540 : decode cX9_goesOn 540 = .ok (.getfield 140, 3) := by decide +kernel
theorem dX9_goesOn_543 : decode cX9_goesOn 543 = .ok (.iconst 1, 1) := by decide +kernel
theorem dX9_goesOn_544 : decode cX9_goesOn 544 = .ok (.isub, 1) := by decide +kernel
theorem dX9_goesOn_545 : decode cX9_goesOn 545 = .ok (.putfield 140, 3) := by decide +kernel
theorem dX9_goesOn_548 : decode cX9_goesOn 548 = .ok (.aload_n 0, 1) := by decide +kernel
theorem dX9_goesOn_549 : decode cX9_goesOn 549 = .ok (.dup, 1) := by decide +kernel
theorem dX9_goesOn_550 : decode cX9_goesOn 550 = .ok (.getfield 143, 3) := by decide +kernel
theorem dX9_goesOn_553 : decode cX9_goesOn 553 = .ok (.iconst 1, 1) := by decide +kernel
theorem dX9_goesOn_554 : decode cX9_goesOn 554 = .ok (.isub, 1) := by decide +kernel
theorem dX9_goesOn_555 : decode cX9_goesOn 555 = .ok (.putfield 143, 3) := by decide +kernel
theorem dX9_goesOn_558 : decode cX9_goesOn 558 = .ok (.iload_n 2, 1) := by decide +kernel
theorem dX9_goesOn_559 : decode cX9_goesOn 559 = .ok (.iconst 4, 1) := by decide +kernel
theorem dX9_goesOn_560 : decode cX9_goesOn 560 = .ok (.if_icmp .ne 14, 3) := by decide +kernel
theorem dX9_goesOn_563 : decode cX9_goesOn 563 = .ok (.aload_n 0, 1) := by decide +kernel
theorem dX9_goesOn_564 : decode cX9_goesOn 564 = .ok (.aload_n 0, 1) := by decide +kernel
theorem dX9_goesOn_565 : decode cX9_goesOn 565 = .ok (.getfield 134, 3) := by decide +kernel
theorem dX9_goesOn_568 : decode cX9_goesOn 568 = .ok (.iload_n 1, 1) := by decide +kernel
theorem dX9_goesOn_569 : decode cX9_goesOn 569 = .ok (.iaload, 1) := by decide +kernel
theorem dX9_goesOn_570 : decode cX9_goesOn 570 = .ok (.iconst 0, 1) := by decide +kernel
theorem dX9_goesOn_571 : decode cX9_goesOn 571 = .ok (.invokevirtual 321, 3) := by decide +kernel
theorem dX9_goesOn_574 : decode cX9_goesOn 574 = .ok (.iload_n 2, 1) := by decide +kernel
theorem dX9_goesOn_575 : decode cX9_goesOn 575 = .ok (.iconst 5, 1) := by decide +kernel
theorem dX9_goesOn_576 : decode cX9_goesOn 576 = .ok (.if_icmp .ne 15, 3) := by decide +kernel
theorem dX9_goesOn_579 : decode cX9_goesOn 579 = .ok (.aload_n 0, 1) := by decide +kernel
theorem dX9_goesOn_580 : decode cX9_goesOn 580 = .ok (.getfield 127, 3) := by decide +kernel
theorem dX9_goesOn_583 : decode cX9_goesOn 583 = .ok (.aload_n 0, 1) := by decide +kernel
theorem dX9_goesOn_584 : decode cX9_goesOn 584 = .ok (.getfield 140, 3) := by decide +kernel
theorem dX9_goesOn_587 : decode cX9_goesOn 587 = .ok (.iconst 1, 1) := by decide +kernel
theorem dX9_goesOn_588 : decode cX9_goesOn 588 = .ok (.isub, 1) := by decide +kernel
theorem dX9_goesOn_589 : decode cX9_goesOn 589 = .ok (.iconst 2, 1) := by decide +kernel
theorem dX9_goesOn_590 : decode cX9_goesOn 590 = .ok (.iastore, 1) := by decide +kernel
theorem dX9_goesOn_591 : decode cX9_goesOn 591 = .ok (.aload_n 0, 1) := by decide +kernel
theorem dX9_goesOn_592 : decode cX9_goesOn 592 = .ok (.invokevirtual 257, 3) := by decide +kernel
theorem dX9_goesOn_595 : decode cX9_goesOn 595 = .ok (.iconst 1, 1) := by decide +kernel
theorem dX9_goesOn_596 : decode cX9_goesOn 596 = .ok (.ireturn, 1) := by decide +kernel
theorem dX9_reads_0 : decode cX9_reads 0 = .ok (.aload_n 0, 1) := by decide +kernel
theorem dX9_reads_1 : decode cX9_reads 1 = .ok (.getfield 36, 3) := by decide +kernel
theorem dX9_reads_4 : decode cX9_reads 4 = .ok (.ifCond .le 4, 3) := by decide +kernel
theorem dX9_reads_7 : decode cX9_reads 7 = .ok (.return_, 1) := by decide +kernel
theorem dX9_reads_8 : decode cX9_reads 8 = .ok (.aload_n 0, 1) := by decide +kernel
theorem dX9_reads_9 : decode cX9_reads 9 = .ok (.iconst 0, 1) := by decide +kernel
theorem dX9_reads_10 : decode cX9_reads 10 = .ok (.putfield 140, 3) := by decide +kernel
theorem dX9_reads_13 : decode cX9_reads 13 = .ok (.aload_n 0, 1) := by decide +kernel
theorem dX9_reads_14 : decode cX9_reads 14 = .ok (.iconst 0, 1) := by decide +kernel
theorem dX9_reads_15 : decode cX9_reads 15 = .ok (.putfield 143, 3) := by decide +kernel
theorem dX9_reads_18 : decode cX9_reads 18 = .ok (.aload_n 0, 1) := by decide +kernel
theorem dX9_reads_19 : decode cX9_reads 19 = .ok (.iconst 0, 1) := by decide +kernel
theorem dX9_reads_20 : decode cX9_reads 20 = .ok (.putfield 149, 3) := by decide +kernel
theorem dX9_reads_23 : decode cX9_reads 23 = .ok (.aload_n 0, 1) := by decide +kernel
theorem dX9_reads_24 : decode cX9_reads 24 = .ok (.iconst 0, 1) := by decide +kernel
theorem dX9_reads_25 : decode cX9_reads 25 = .ok (.putfield 152, 3) := by decide +kernel
theorem dX9_reads_28 : decode cX9_reads 28 = .ok (.aload_n 0, 1) := by decide +kernel
theorem dX9_reads_29 : decode cX9_reads 29 = .ok (.iload_n 1, 1) := by decide +kernel
theorem dX9_reads_30 : decode cX9_reads 30 = .ok (.ifCond .eq 7, 3) := by decide +kernel
theorem dX9_reads_33 : decode cX9_reads 33 = .ok (.iconst 1, 1) := by decide +kernel
theorem dX9_reads_34 : decode cX9_reads 34 = .ok (.goto 4, 3) := by decide +kernel
theorem dX9_reads_37 : decode cX9_reads 37 = .ok (.iconst 0, 1) := by decide +kernel
theorem dX9_reads_38 : decode cX9_reads 38 = .ok (.invokevirtual 324, 3) := by decide +kernel
theorem dX9_reads_41 : decode cX9_reads 41 = .ok (.iconst 1, 1) := by decide +kernel
theorem dX9_reads_42 : decode cX9_reads 42 = .ok (.istore_n 2, 1) := by decide +kernel
theorem dX9_reads_43 : decode cX9_reads 43 = .ok (.iload_n 2, 1) := by decide +kernel
theorem dX9_reads_44 : decode cX9_reads 44 = .ok (.ifCond .eq 46, 3) := by decide +kernel
theorem dX9_reads_47 : decode cX9_reads 47 = .ok (.aload_n 0, 1) := by decide +kernel
theorem dX9_reads_48 : decode cX9_reads 48 = .ok (.getfield 152, 3) := by decide +kernel
theorem dX9_reads_51 : decode cX9_reads 51 = .ok (.ifCond .ne 14, 3) := by decide +kernel
theorem dX9_reads_54 : decode cX9_reads 54 = .ok (.aload_n 0, 1) := by decide +kernel
theorem dX9_reads_55 : decode cX9_reads 55 = .ok (.aload_n 0, 1) := by decide +kernel
theorem dX9_reads_56 : decode cX9_reads 56 = .ok (.invokevirtual 342, 3) := by decide +kernel
theorem dX9_reads_59 : decode cX9_reads 59 = .ok (.putfield 152, 3) := by decide +kernel
theorem dX9_reads_62 : decode cX9_reads 62 = .ok (.goto 8, 3) := by decide +kernel
theorem dX9_reads_65 : decode cX9_reads 65 = .ok (.aload_n 0, 1) := by decide +kernel
theorem dX9_reads_66 : decode cX9_reads 66 = .ok (.invokevirtual 345, 3) := by decide +kernel
theorem dX9_reads_69 : decode cX9_reads 69 = .ok (.istore_n 2, 1) := by decide +kernel
theorem dX9_reads_70 : decode cX9_reads 70 = .ok (.iload_n 2, 1) := by decide +kernel
theorem dX9_reads_71 : decode cX9_reads 71 = .ok (.ifCond .eq 14, 3) := by decide +kernel
theorem dX9_reads_74 : decode cX9_reads 74 = .ok (.aload_n 0, 1) := by decide +kernel
theorem dX9_reads_75 : decode cX9_reads 75 = .ok (.getfield 36, 3) := by decide +kernel
theorem dX9_reads_78 : decode cX9_reads 78 = .ok (.ifCond .ne 7, 3) := by decide +kernel
theorem dX9_reads_81 : decode cX9_reads 81 = .ok (.iconst 1, 1) := by decide +kernel
theorem dX9_reads_82 : decode cX9_reads 82 = .ok (.goto 4, 3) := by decide +kernel
theorem dX9_reads_85 : decode cX9_reads 85 = .ok (.iconst 0, 1) := by decide +kernel
theorem dX9_reads_86 : decode cX9_reads 86 = .ok (.istore_n 2, 1) := by decide +kernel
theorem dX9_reads_87 : decode cX9_reads 87 = .ok (.goto (-44), 3) := by decide +kernel
theorem dX9_reads_90 : decode cX9_reads 90 = .ok (.return_, 1) := by decide +kernel
theorem dX9_counts_0 : decode cX9_counts 0 = .ok (.aload_n 0, 1) := by decide +kernel
theorem dX9_counts_1 : decode cX9_counts 1 = .ok (.getfield 36, 3) := by decide +kernel
theorem dX9_counts_4 : decode cX9_counts 4 = .ok (.ifCond .ne 17, 3) := by decide +kernel
theorem dX9_counts_7 : decode cX9_counts 7 = .ok (.iload_n 1, 1) := by decide +kernel
theorem dX9_counts_8 : decode cX9_counts 8 = .ok (.ifCond .eq 13, 3) := by decide +kernel
theorem dX9_counts_11 : decode cX9_counts 11 = .ok (.aload_n 0, 1) := by decide +kernel
theorem dX9_counts_12 : decode cX9_counts 12 = .ok (.bipush 6, 2) := by decide +kernel
theorem dX9_counts_14 : decode cX9_counts 14 = .ok (.aload_n 0, 1) := by decide +kernel
theorem dX9_counts_15 : decode cX9_counts 15 = .ok (.getfield 23, 3) := by decide +kernel
theorem dX9_counts_18 : decode cX9_counts 18 = .ok (.invokevirtual 236, 3) := by decide +kernel
theorem dX9_counts_21 : decode cX9_counts 21 = .ok (.aload_n 0, 1) := by decide +kernel
theorem dX9_counts_22 : decode cX9_counts 22 = .ok (.getfield 36, 3) := by decide +kernel
theorem dX9_counts_25 : decode cX9_counts 25 = .ok (.ifCond .ne 7, 3) := by decide +kernel
theorem dX9_counts_28 : decode cX9_counts 28 = .ok (.aload_n 0, 1) := by decide +kernel
theorem dX9_counts_29 : decode cX9_counts 29 = .ok (.invokevirtual 257, 3) := by decide +kernel
theorem dX9_counts_32 : decode cX9_counts 32 = .ok (.aload_n 0, 1) := by decide +kernel
theorem dX9_counts_33 : decode cX9_counts 33 = .ok (.getfield 36, 3) := by decide +kernel
theorem dX9_counts_36 : decode cX9_counts 36 = .ok (.ifCond .ne 7, 3) := by decide +kernel
theorem dX9_counts_39 : decode cX9_counts 39 = .ok (.iconst 1, 1) := by decide +kernel
theorem dX9_counts_40 : decode cX9_counts 40 = .ok (.goto 4, 3) := by decide +kernel
theorem dX9_counts_43 : decode cX9_counts 43 = .ok (.iconst 0, 1) := by decide +kernel
theorem dX9_counts_44 : decode cX9_counts 44 = .ok (.ireturn, 1) := by decide +kernel
theorem dX9_must__0 : decode cX9_must_ 0 = .ok (.aload_n 0, 1) := by decide +kernel
theorem dX9_must__1 : decode cX9_must_ 1 = .ok (.invokevirtual 251, 3) := by decide +kernel
theorem dX9_must__4 : decode cX9_must_ 4 = .ok (.aload_n 0, 1) := by decide +kernel
theorem dX9_must__5 : decode cX9_must_ 5 = .ok (.getfield 36, 3) := by decide +kernel
theorem dX9_must__8 : decode cX9_must_ 8 = .ok (.ifCond .le 4, 3) := by decide +kernel
theorem dX9_must__11 : decode cX9_must_ 11 = .ok (.return_, 1) := by decide +kernel
theorem dX9_must__12 : decode cX9_must_ 12 = .ok (.aload_n 0, 1) := by decide +kernel
theorem dX9_must__13 : decode cX9_must_ 13 = .ok (.lload_n 1, 1) := by decide +kernel
theorem dX9_must__14 : decode cX9_must_ 14 = .ok (.invokevirtual 330, 3) := by decide +kernel
theorem dX9_must__17 : decode cX9_must_ 17 = .ok (.ifCond .ne 12, 3) := by decide +kernel
theorem dX9_must__20 : decode cX9_must_ 20 = .ok (.aload_n 0, 1) := by decide +kernel
theorem dX9_must__21 : decode cX9_must_ 21 = .ok (.iconst 1, 1) := by decide +kernel
theorem dX9_must__22 : decode cX9_must_ 22 = .ok (.aload_n 0, 1) := by decide +kernel
theorem dX9_must__23 : decode cX9_must_ 23 = .ok (.getfield 23, 3) := by decide +kernel
theorem dX9_must__26 : decode cX9_must_ 26 = .ok (.invokevirtual 236, 3) := by decide +kernel
theorem dX9_must__29 : decode cX9_must_ 29 = .ok (.aload_n 0, 1) := by decide +kernel
theorem dX9_must__30 : decode cX9_must_ 30 = .ok (.getfield 36, 3) := by decide +kernel
theorem dX9_must__33 : decode cX9_must_ 33 = .ok (.ifCond .ne 7, 3) := by decide +kernel
theorem dX9_must__36 : decode cX9_must_ 36 = .ok (.aload_n 0, 1) := by decide +kernel
theorem dX9_must__37 : decode cX9_must_ 37 = .ok (.invokevirtual 257, 3) := by decide +kernel
theorem dX9_must__40 : decode cX9_must_ 40 = .ok (.return_, 1) := by decide +kernel
theorem dX9_fresh_0 : decode cX9_fresh 0 = .ok (.aload_n 0, 1) := by decide +kernel
theorem dX9_fresh_1 : decode cX9_fresh 1 = .ok (.invokevirtual 251, 3) := by decide +kernel
theorem dX9_fresh_4 : decode cX9_fresh 4 = .ok (.aload_n 0, 1) := by decide +kernel
theorem dX9_fresh_5 : decode cX9_fresh 5 = .ok (.getfield 36, 3) := by decide +kernel
theorem dX9_fresh_8 : decode cX9_fresh 8 = .ok (.ifCond .le 5, 3) := by decide +kernel
theorem dX9_fresh_11 : decode cX9_fresh 11 = .ok (.lconst 0, 1) := by decide +kernel
theorem dX9_fresh_12 : decode cX9_fresh 12 = .ok (.lreturn, 1) := by decide +kernel
theorem dX9_fresh_13 : decode cX9_fresh 13 = .ok (.aload_n 0, 1) := by decide +kernel
theorem dX9_fresh_14 : decode cX9_fresh 14 = .ok (.getfield 20, 3) := by decide +kernel
theorem dX9_fresh_17 : decode cX9_fresh 17 = .ok (.iconst 1, 1) := by decide +kernel
theorem dX9_fresh_18 : decode cX9_fresh 18 = .ok (.if_icmp .ne 14, 3) := by decide +kernel
theorem dX9_fresh_21 : decode cX9_fresh 21 = .ok (.aload_n 0, 1) := by decide +kernel
theorem dX9_fresh_22 : decode cX9_fresh 22 = .ok (.aload_n 0, 1) := by decide +kernel
theorem dX9_fresh_23 : decode cX9_fresh 23 = .ok (.getfield 32, 3) := by decide +kernel
theorem dX9_fresh_26 : decode cX9_fresh 26 = .ok (.invokevirtual 247, 3) := by decide +kernel
theorem dX9_fresh_29 : decode cX9_fresh 29 = .ok (.ifCond .eq 12, 3) := by decide +kernel
theorem dX9_fresh_32 : decode cX9_fresh 32 = .ok (.aload_n 0, 1) := by decide +kernel
theorem dX9_fresh_33 : decode cX9_fresh 33 = .ok (.iconst 1, 1) := by decide +kernel
theorem dX9_fresh_34 : decode cX9_fresh 34 = .ok (.aload_n 0, 1) := by decide +kernel
theorem dX9_fresh_35 : decode cX9_fresh 35 = .ok (.getfield 23, 3) := by decide +kernel
theorem dX9_fresh_38 : decode cX9_fresh 38 = .ok (.invokevirtual 236, 3) := by decide +kernel
theorem dX9_fresh_41 : decode cX9_fresh 41 = .ok (.iconst 0, 1) := by decide +kernel
theorem dX9_fresh_42 : decode cX9_fresh 42 = .ok (.istore_n 1, 1) := by decide +kernel
theorem dX9_fresh_43 : decode cX9_fresh 43 = .ok (.iload_n 1, 1) := by decide +kernel
theorem dX9_fresh_44 : decode cX9_fresh 44 = .ok (.iconst 2, 1) := by decide +kernel
theorem dX9_fresh_45 : decode cX9_fresh 45 = .ok (.if_icmp .gt 38, 3) := by decide +kernel
theorem dX9_fresh_48 : decode cX9_fresh 48 = .ok (.aload_n 0, 1) := by decide +kernel
theorem dX9_fresh_49 : decode cX9_fresh 49 = .ok (.getfield 36, 3) := by decide +kernel
theorem dX9_fresh_52 : decode cX9_fresh 52 = .ok (.ifCond .ne 31, 3) := by decide +kernel
theorem dX9_fresh_55 : decode cX9_fresh 55 = .ok (.aload_n 0, 1) := by decide +kernel
theorem dX9_fresh_56 : decode cX9_fresh 56 = .ok (.iload_n 1, 1) := by decide +kernel
theorem dX9_fresh_57 : decode cX9_fresh 57 = .ok (.aload_n 0, 1) := by decide +kernel
theorem dX9_fresh_58 : decode cX9_fresh 58 = .ok (.getfield 32, 3) := by decide +kernel
theorem dX9_fresh_61 : decode cX9_fresh 61 = .ok (.invokevirtual 348, 3) := by decide +kernel
theorem dX9_fresh_64 : decode cX9_fresh 64 = .ok (.iconst (-1), 1) := by decide +kernel
theorem dX9_fresh_65 : decode cX9_fresh 65 = .ok (.if_icmp .eq 12, 3) := by decide +kernel
theorem dX9_fresh_68 : decode cX9_fresh 68 = .ok (.aload_n 0, 1) := by decide +kernel
theorem dX9_fresh_69 : decode cX9_fresh 69 = .ok (.iconst 2, 1) := by decide +kernel
theorem dX9_fresh_70 : decode cX9_fresh 70 = .ok (.aload_n 0, 1) := by decide +kernel
theorem dX9_fresh_71 : decode cX9_fresh 71 = .ok (.getfield 23, 3) := by decide +kernel
theorem dX9_fresh_74 : decode cX9_fresh 74 = .ok (.invokevirtual 236, 3) := by decide +kernel
theorem dX9_fresh_77 : decode cX9_fresh 77 = .ok (.iinc 1 1, 3) := by decide +kernel
theorem dX9_fresh_80 : decode cX9_fresh 80 = .ok (.goto (-37), 3) := by decide +kernel
theorem dX9_fresh_83 : decode cX9_fresh 83 = .ok (.aload_n 0, 1) := by decide +kernel
theorem dX9_fresh_84 : decode cX9_fresh 84 = .ok (.getfield 32, 3) := by decide +kernel
theorem dX9_fresh_87 : decode cX9_fresh 87 = .ok (.lstore_n 1, 1) := by decide +kernel
theorem dX9_fresh_88 : decode cX9_fresh 88 = .ok (.aload_n 0, 1) := by decide +kernel
theorem dX9_fresh_89 : decode cX9_fresh 89 = .ok (.getfield 36, 3) := by decide +kernel
theorem dX9_fresh_92 : decode cX9_fresh 92 = .ok (.ifCond .ne 7, 3) := by decide +kernel
theorem dX9_fresh_95 : decode cX9_fresh 95 = .ok (.aload_n 0, 1) := by decide +kernel
theorem dX9_fresh_96 : decode cX9_fresh 96 = .ok (.invokevirtual 257, 3) := by decide +kernel
theorem dX9_fresh_99 : decode cX9_fresh 99 = .ok (.lload_n 1, 1) := by decide +kernel
theorem dX9_fresh_100 : decode cX9_fresh 100 = .ok (.lreturn, 1) := by decide +kernel
theorem dX9_looked_0 : decode cX9_looked 0 = .ok (.aload_n 0, 1) := by decide +kernel
theorem dX9_looked_1 : decode cX9_looked 1 = .ok (.invokevirtual 251, 3) := by decide +kernel
theorem dX9_looked_4 : decode cX9_looked 4 = .ok (.aload_n 0, 1) := by decide +kernel
theorem dX9_looked_5 : decode cX9_looked 5 = .ok (.getfield 36, 3) := by decide +kernel
theorem dX9_looked_8 : decode cX9_looked 8 = .ok (.ifCond .le 5, 3) := by decide +kernel
theorem dX9_looked_11 : decode cX9_looked 11 = .ok (.iconst 0, 1) := by decide +kernel
theorem dX9_looked_12 : decode cX9_looked 12 = .ok (.ireturn, 1) := by decide +kernel
theorem dX9_looked_13 : decode cX9_looked 13 = .ok (.aload_n 0, 1) := by decide +kernel
theorem dX9_looked_14 : decode cX9_looked 14 = .ok (.getfield 20, 3) := by decide +kernel
theorem dX9_looked_17 : decode cX9_looked 17 = .ok (.iconst 1, 1) := by decide +kernel
theorem dX9_looked_18 : decode cX9_looked 18 = .ok (.if_icmp .ne 14, 3) := by decide +kernel
theorem dX9_looked_21 : decode cX9_looked 21 = .ok (.aload_n 0, 1) := by decide +kernel
theorem dX9_looked_22 : decode cX9_looked 22 = .ok (.aload_n 0, 1) := by decide +kernel
theorem dX9_looked_23 : decode cX9_looked 23 = .ok (.getfield 32, 3) := by decide +kernel
theorem dX9_looked_26 : decode cX9_looked 26 = .ok (.invokevirtual 247, 3) := by decide +kernel
theorem dX9_looked_29 : decode cX9_looked 29 = .ok (.ifCond .eq 12, 3) := by decide +kernel
theorem dX9_looked_32 : decode cX9_looked 32 = .ok (.aload_n 0, 1) := by decide +kernel
theorem dX9_looked_33 : decode cX9_looked 33 = .ok (.iconst 1, 1) := by decide +kernel
theorem dX9_looked_34 : decode cX9_looked 34 = .ok (.aload_n 0, 1) := by decide +kernel
theorem dX9_looked_35 : decode cX9_looked 35 = .ok (.getfield 23, 3) := by decide +kernel
theorem dX9_looked_38 : decode cX9_looked 38 = .ok (.invokevirtual 236, 3) := by decide +kernel
theorem dX9_looked_41 : decode cX9_looked 41 = .ok (.aload_n 0, 1) := by decide +kernel
theorem dX9_looked_42 : decode cX9_looked 42 = .ok (.getfield 36, 3) := by decide +kernel
theorem dX9_looked_45 : decode cX9_looked 45 = .ok (.ifCond .le 7, 3) := by decide +kernel
theorem dX9_looked_48 : decode cX9_looked 48 = .ok (.iconst 0, 1) := by decide +kernel
theorem dX9_looked_49 : decode cX9_looked 49 = .ok (.goto 12, 3) := by decide +kernel
theorem dX9_looked_52 : decode cX9_looked 52 = .ok (.aload_n 0, 1) := by decide +kernel
theorem dX9_looked_53 : decode cX9_looked 53 = .ok (.iload_n 1, 1) := by decide +kernel
theorem dX9_looked_54 : decode cX9_looked 54 = .ok (.aload_n 0, 1) := by decide +kernel
theorem dX9_looked_55 : decode cX9_looked 55 = .ok (.getfield 32, 3) := by decide +kernel
theorem dX9_looked_58 : decode cX9_looked 58 = .ok (.invokevirtual 348, 3) := by decide +kernel
theorem dX9_looked_61 : decode cX9_looked 61 = .ok (.istore_n 2, 1) := by decide +kernel
theorem dX9_looked_62 : decode cX9_looked 62 = .ok (.aload_n 0, 1) := by decide +kernel
theorem dX9_looked_63 : decode cX9_looked 63 = .ok (.getfield 36, 3) := by decide +kernel
theorem dX9_looked_66 : decode cX9_looked 66 = .ok (.ifCond .ne 17, 3) := by decide +kernel
theorem dX9_looked_69 : decode cX9_looked 69 = .ok (.iload_n 2, 1) := by decide +kernel
theorem dX9_looked_70 : decode cX9_looked 70 = .ok (.iconst (-1), 1) := by decide +kernel
theorem dX9_looked_71 : decode cX9_looked 71 = .ok (.if_icmp .ne 12, 3) := by decide +kernel
theorem dX9_looked_74 : decode cX9_looked 74 = .ok (.aload_n 0, 1) := by decide +kernel
theorem dX9_looked_75 : decode cX9_looked 75 = .ok (.iconst 3, 1) := by decide +kernel
theorem dX9_looked_76 : decode cX9_looked 76 = .ok (.aload_n 0, 1) := by decide +kernel
theorem dX9_looked_77 : decode cX9_looked 77 = .ok (.getfield 23, 3) := by decide +kernel
theorem dX9_looked_80 : decode cX9_looked 80 = .ok (.invokevirtual 236, 3) := by decide +kernel
theorem dX9_looked_83 : decode cX9_looked 83 = .ok (.aload_n 0, 1) := by decide +kernel
theorem dX9_looked_84 : decode cX9_looked 84 = .ok (.getfield 36, 3) := by decide +kernel
theorem dX9_looked_87 : decode cX9_looked 87 = .ok (.ifCond .le 7, 3) := by decide +kernel
theorem dX9_looked_90 : decode cX9_looked 90 = .ok (.iconst 0, 1) := by decide +kernel
theorem dX9_looked_91 : decode cX9_looked 91 = .ok (.goto 4, 3) := by decide +kernel
theorem dX9_looked_94 : decode cX9_looked 94 = .ok (.iload_n 2, 1) := by decide +kernel
theorem dX9_looked_95 : decode cX9_looked 95 = .ok (.ireturn, 1) := by decide +kernel
theorem dX9_asked_0 : decode cX9_asked 0 = .ok (.aload_n 0, 1) := by decide +kernel
theorem dX9_asked_1 : decode cX9_asked 1 = .ok (.iload_n 1, 1) := by decide +kernel
theorem dX9_asked_2 : decode cX9_asked 2 = .ok (.invokevirtual 352, 3) := by decide +kernel
theorem dX9_asked_5 : decode cX9_asked 5 = .ok (.istore_n 2, 1) := by decide +kernel
theorem dX9_asked_6 : decode cX9_asked 6 = .ok (.aload_n 0, 1) := by decide +kernel
theorem dX9_asked_7 : decode cX9_asked 7 = .ok (.getfield 36, 3) := by decide +kernel
theorem dX9_asked_10 : decode cX9_asked 10 = .ok (.ifCond .ne 7, 3) := by decide +kernel
theorem dX9_asked_13 : decode cX9_asked 13 = .ok (.aload_n 0, 1) := by decide +kernel
theorem dX9_asked_14 : decode cX9_asked 14 = .ok (.invokevirtual 257, 3) := by decide +kernel
theorem dX9_asked_17 : decode cX9_asked 17 = .ok (.aload_n 0, 1) := by decide +kernel
theorem dX9_asked_18 : decode cX9_asked 18 = .ok (.getfield 36, 3) := by decide +kernel
theorem dX9_asked_21 : decode cX9_asked 21 = .ok (.ifCond .le 7, 3) := by decide +kernel
theorem dX9_asked_24 : decode cX9_asked 24 = .ok (.iconst 0, 1) := by decide +kernel
theorem dX9_asked_25 : decode cX9_asked 25 = .ok (.goto 4, 3) := by decide +kernel
theorem dX9_asked_28 : decode cX9_asked 28 = .ok (.iload_n 2, 1) := by decide +kernel
theorem dX9_asked_29 : decode cX9_asked 29 = .ok (.ireturn, 1) := by decide +kernel
theorem dX9_personing_0 : decode cX9_personing 0 = .ok (.aload_n 0, 1) := by decide +kernel
theorem dX9_personing_1 : decode cX9_personing 1 = .ok (.aload_n 0, 1) := by decide +kernel
theorem dX9_personing_2 : decode cX9_personing 2 = .ok (.getfield 54, 3) := by decide +kernel
theorem dX9_personing_5 : decode cX9_personing 5 = .ok (.aload_n 0, 1) := by decide +kernel
theorem dX9_personing_6 : decode cX9_personing 6 = .ok (.getfield 121, 3) := by decide +kernel
theorem dX9_personing_9 : decode cX9_personing 9 = .ok (.iaload, 1) := by decide +kernel
theorem dX9_personing_10 : decode cX9_personing 10 = .ok (.bipush 10, 2) := by decide +kernel
theorem dX9_personing_12 : decode cX9_personing 12 = .ok (.if_icmp .ne 7, 3) := by decide +kernel
theorem dX9_personing_15 : decode cX9_personing 15 = .ok (.iconst 1, 1) := by decide +kernel
theorem dX9_personing_16 : decode cX9_personing 16 = .ok (.goto 4, 3) := by decide +kernel
theorem dX9_personing_19 : decode cX9_personing 19 = .ok (.iconst 0, 1) := by decide +kernel
theorem dX9_personing_20 : decode cX9_personing 20 = .ok (.invokevirtual 355, 3) := by decide +kernel
theorem dX9_personing_23 : decode cX9_personing 23 = .ok (.ifCond .ne 4, 3) := by decide +kernel
theorem dX9_personing_26 : decode cX9_personing 26 = .ok (.return_, 1) := by decide +kernel
theorem dX9_personing_27 : decode cX9_personing 27 = .ok (.bipush 10, 2) := by decide +kernel
theorem dX9_personing_29 : decode cX9_personing 29 = .ok (.aload_n 0, 1) := by decide +kernel
theorem dX9_personing_30 : decode cX9_personing 30 = .ok (.getfield 121, 3) := by decide +kernel
theorem dX9_personing_33 : decode cX9_personing 33 = .ok (.imul, 1) := by decide +kernel
theorem dX9_personing_34 : decode cX9_personing 34 = .ok (.aload_n 0, 1) := by decide +kernel
theorem dX9_personing_35 : decode cX9_personing 35 = .ok (.getfield 54, 3) := by decide +kernel
theorem dX9_personing_38 : decode cX9_personing 38 = .ok (.aload_n 0, 1) := by decide +kernel
theorem dX9_personing_39 : decode cX9_personing 39 = .ok (.getfield 121, 3) := by decide +kernel
theorem dX9_personing_42 : decode cX9_personing 42 = .ok (.iaload, 1) := by decide +kernel
theorem dX9_personing_43 : decode cX9_personing 43 = .ok (.iadd, 1) := by decide +kernel
theorem dX9_personing_44 : decode cX9_personing 44 = .ok (.istore_n 1, 1) := by decide +kernel
theorem dX9_personing_45 : decode cX9_personing 45 = .ok (.aload_n 0, 1) := by decide +kernel
theorem dX9_personing_46 : decode cX9_personing 46 = .ok (.getfield 108, 3) := by decide +kernel
theorem dX9_personing_49 : decode cX9_personing 49 = .ok (.iload_n 1, 1) := by decide +kernel
theorem dX9_personing_50 : decode cX9_personing 50 = .ok (.aload_n 0, 1) := by decide +kernel
theorem dX9_personing_51 : decode cX9_personing 51 = .ok (.invokevirtual 359, 3) := by decide +kernel
theorem dX9_personing_54 : decode cX9_personing 54 = .ok (.lastore, 1) := by decide +kernel
theorem dX9_personing_55 : decode cX9_personing 55 = .ok (.aload_n 0, 1) := by decide +kernel
theorem dX9_personing_56 : decode cX9_personing 56 = .ok (.ldc2_w 262, 3) := by decide +kernel
theorem dX9_personing_59 : decode cX9_personing 59 = .ok (.invokevirtual 363, 3) := by decide +kernel
theorem dX9_personing_62 : decode cX9_personing 62 = .ok (.aload_n 0, 1) := by decide +kernel
theorem dX9_personing_63 : decode cX9_personing 63 = .ok (.getfield 57, 3) := by decide +kernel
theorem dX9_personing_66 : decode cX9_personing 66 = .ok (.iload_n 1, 1) := by decide +kernel
theorem dX9_personing_67 : decode cX9_personing 67 = .ok (.aload_n 0, 1) := by decide +kernel
theorem dX9_personing_68 : decode cX9_personing 68 = .ok (.iconst 0, 1) := by decide +kernel
theorem dX9_personing_69 : decode cX9_personing 69 = .ok (.bipush 9, 2) := by decide +kernel
theorem dX9_personing_71 : decode cX9_personing 71 = .ok (.invokevirtual 367, 3) := by decide +kernel
theorem dX9_personing_74 : decode cX9_personing 74 = .ok (.iastore, 1) := by decide +kernel
theorem dX9_personing_75 : decode cX9_personing 75 = .ok (.aload_n 0, 1) := by decide +kernel
theorem dX9_personing_76 : decode cX9_personing 76 = .ok (.getfield 36, 3) := by decide +kernel
theorem dX9_personing_79 : decode cX9_personing 79 = .ok (.ifCond .ne 16, 3) := by decide +kernel
theorem dX9_personing_82 : decode cX9_personing 82 = .ok (.aload_n 0, 1) := by decide +kernel
theorem dX9_personing_83 : decode cX9_personing 83 = .ok (.getfield 54, 3) := by decide +kernel
theorem dX9_personing_86 : decode cX9_personing 86 = .ok (.aload_n 0, 1) := by decide +kernel
theorem dX9_personing_87 : decode cX9_personing 87 = .ok (.getfield 121, 3) := by decide +kernel
theorem dX9_personing_90 : decode cX9_personing 90 = .ok (.dup2, 1) := by decide +kernel
theorem dX9_personing_91 : decode cX9_personing 91 = .ok (.iaload, 1) := by decide +kernel
theorem dX9_personing_92 : decode cX9_personing 92 = .ok (.iconst 1, 1) := by decide +kernel
theorem dX9_personing_93 : decode cX9_personing 93 = .ok (.iadd, 1) := by decide +kernel
theorem dX9_personing_94 : decode cX9_personing 94 = .ok (.iastore, 1) := by decide +kernel
theorem dX9_personing_95 : decode cX9_personing 95 = .ok (.return_, 1) := by decide +kernel
theorem dX9_coining_0 : decode cX9_coining 0 = .ok (.aload_n 0, 1) := by decide +kernel
theorem dX9_coining_1 : decode cX9_coining 1 = .ok (.aload_n 0, 1) := by decide +kernel
theorem dX9_coining_2 : decode cX9_coining 2 = .ok (.getfield 60, 3) := by decide +kernel
theorem dX9_coining_5 : decode cX9_coining 5 = .ok (.aload_n 0, 1) := by decide +kernel
theorem dX9_coining_6 : decode cX9_coining 6 = .ok (.getfield 121, 3) := by decide +kernel
theorem dX9_coining_9 : decode cX9_coining 9 = .ok (.iaload, 1) := by decide +kernel
theorem dX9_coining_10 : decode cX9_coining 10 = .ok (.bipush 12, 2) := by decide +kernel
theorem dX9_coining_12 : decode cX9_coining 12 = .ok (.if_icmp .ne 7, 3) := by decide +kernel
theorem dX9_coining_15 : decode cX9_coining 15 = .ok (.iconst 1, 1) := by decide +kernel
theorem dX9_coining_16 : decode cX9_coining 16 = .ok (.goto 4, 3) := by decide +kernel
theorem dX9_coining_19 : decode cX9_coining 19 = .ok (.iconst 0, 1) := by decide +kernel
theorem dX9_coining_20 : decode cX9_coining 20 = .ok (.invokevirtual 355, 3) := by decide +kernel
theorem dX9_coining_23 : decode cX9_coining 23 = .ok (.ifCond .ne 4, 3) := by decide +kernel
theorem dX9_coining_26 : decode cX9_coining 26 = .ok (.return_, 1) := by decide +kernel
theorem dX9_coining_27 : decode cX9_coining 27 = .ok (.bipush 12, 2) := by decide +kernel
theorem dX9_coining_29 : decode cX9_coining 29 = .ok (.aload_n 0, 1) := by decide +kernel
theorem dX9_coining_30 : decode cX9_coining 30 = .ok (.getfield 121, 3) := by decide +kernel
theorem dX9_coining_33 : decode cX9_coining 33 = .ok (.imul, 1) := by decide +kernel
theorem dX9_coining_34 : decode cX9_coining 34 = .ok (.aload_n 0, 1) := by decide +kernel
theorem dX9_coining_35 : decode cX9_coining 35 = .ok (.getfield 60, 3) := by decide +kernel
theorem dX9_coining_38 : decode cX9_coining 38 = .ok (.aload_n 0, 1) := by decide +kernel
theorem dX9_coining_39 : decode cX9_coining 39 = .ok (.getfield 121, 3) := by decide +kernel
theorem dX9_coining_42 : decode cX9_coining 42 = .ok (.iaload, 1) := by decide +kernel
theorem dX9_coining_43 : decode cX9_coining 43 = .ok (.iadd, 1) := by decide +kernel
theorem dX9_coining_44 : decode cX9_coining 44 = .ok (.istore_n 1, 1) := by decide +kernel
theorem dX9_coining_45 : decode cX9_coining 45 = .ok (.aload_n 0, 1) := by decide +kernel
theorem dX9_coining_46 : decode cX9_coining 46 = .ok (.getfield 112, 3) := by decide +kernel
theorem dX9_coining_49 : decode cX9_coining 49 = .ok (.iload_n 1, 1) := by decide +kernel
theorem dX9_coining_50 : decode cX9_coining 50 = .ok (.aload_n 0, 1) := by decide +kernel
theorem dX9_coining_51 : decode cX9_coining 51 = .ok (.invokevirtual 359, 3) := by decide +kernel
theorem dX9_coining_54 : decode cX9_coining 54 = .ok (.lastore, 1) := by decide +kernel
theorem dX9_coining_55 : decode cX9_coining 55 = .ok (.aload_n 0, 1) := by decide +kernel
theorem dX9_coining_56 : decode cX9_coining 56 = .ok (.ldc2_w 266, 3) := by decide +kernel
theorem dX9_coining_59 : decode cX9_coining 59 = .ok (.invokevirtual 363, 3) := by decide +kernel
theorem dX9_coining_62 : decode cX9_coining 62 = .ok (.aload_n 0, 1) := by decide +kernel
theorem dX9_coining_63 : decode cX9_coining 63 = .ok (.getfield 63, 3) := by decide +kernel
theorem dX9_coining_66 : decode cX9_coining 66 = .ok (.iload_n 1, 1) := by decide +kernel
theorem dX9_coining_67 : decode cX9_coining 67 = .ok (.aload_n 0, 1) := by decide +kernel
theorem dX9_coining_68 : decode cX9_coining 68 = .ok (.iconst 1, 1) := by decide +kernel
theorem dX9_coining_69 : decode cX9_coining 69 = .ok (.bipush 99, 2) := by decide +kernel
theorem dX9_coining_71 : decode cX9_coining 71 = .ok (.invokevirtual 367, 3) := by decide +kernel
theorem dX9_coining_74 : decode cX9_coining 74 = .ok (.iastore, 1) := by decide +kernel
theorem dX9_coining_75 : decode cX9_coining 75 = .ok (.aload_n 0, 1) := by decide +kernel
theorem dX9_coining_76 : decode cX9_coining 76 = .ok (.ldc2_w 268, 3) := by decide +kernel
theorem dX9_coining_79 : decode cX9_coining 79 = .ok (.invokevirtual 363, 3) := by decide +kernel
theorem dX9_coining_82 : decode cX9_coining 82 = .ok (.aload_n 0, 1) := by decide +kernel
theorem dX9_coining_83 : decode cX9_coining 83 = .ok (.getfield 66, 3) := by decide +kernel
theorem dX9_coining_86 : decode cX9_coining 86 = .ok (.iload_n 1, 1) := by decide +kernel
theorem dX9_coining_87 : decode cX9_coining 87 = .ok (.aload_n 0, 1) := by decide +kernel
theorem dX9_coining_88 : decode cX9_coining 88 = .ok (.iconst 0, 1) := by decide +kernel
theorem dX9_coining_89 : decode cX9_coining 89 = .ok (.invokevirtual 370, 3) := by decide +kernel
theorem dX9_coining_92 : decode cX9_coining 92 = .ok (.iastore, 1) := by decide +kernel
theorem dX9_coining_93 : decode cX9_coining 93 = .ok (.aload_n 0, 1) := by decide +kernel
theorem dX9_coining_94 : decode cX9_coining 94 = .ok (.getfield 69, 3) := by decide +kernel
theorem dX9_coining_97 : decode cX9_coining 97 = .ok (.iload_n 1, 1) := by decide +kernel
theorem dX9_coining_98 : decode cX9_coining 98 = .ok (.iconst 1, 1) := by decide +kernel
theorem dX9_coining_99 : decode cX9_coining 99 = .ok (.aload_n 0, 1) := by decide +kernel
theorem dX9_coining_100 : decode cX9_coining 100 = .ok (.getfield 66, 3) := by decide +kernel
theorem dX9_coining_103 : decode cX9_coining 103 = .ok (.iload_n 1, 1) := by decide +kernel
theorem dX9_coining_104 : decode cX9_coining 104 = .ok (.iaload, 1) := by decide +kernel
theorem dX9_coining_105 : decode cX9_coining 105 = .ok (.ishl, 1) := by decide +kernel
theorem dX9_coining_106 : decode cX9_coining 106 = .ok (.iastore, 1) := by decide +kernel
theorem dX9_coining_107 : decode cX9_coining 107 = .ok (.aload_n 0, 1) := by decide +kernel
theorem dX9_coining_108 : decode cX9_coining 108 = .ok (.getfield 72, 3) := by decide +kernel
theorem dX9_coining_111 : decode cX9_coining 111 = .ok (.iload_n 1, 1) := by decide +kernel
theorem dX9_coining_112 : decode cX9_coining 112 = .ok (.iconst 0, 1) := by decide +kernel
theorem dX9_coining_113 : decode cX9_coining 113 = .ok (.iastore, 1) := by decide +kernel
theorem dX9_coining_114 : decode cX9_coining 114 = .ok (.aload_n 0, 1) := by decide +kernel
theorem dX9_coining_115 : decode cX9_coining 115 = .ok (.invokevirtual 251, 3) := by decide +kernel
theorem dX9_coining_118 : decode cX9_coining 118 = .ok (.aload_n 0, 1) := by decide +kernel
theorem dX9_coining_119 : decode cX9_coining 119 = .ok (.getfield 36, 3) := by decide +kernel
theorem dX9_coining_122 : decode cX9_coining 122 = .ok (.ifCond .le 4, 3) := by decide +kernel
theorem dX9_coining_125 : decode cX9_coining 125 = .ok (.return_, 1) := by decide +kernel
theorem dX9_coining_126 : decode cX9_coining 126 = .ok (.aload_n 0, 1) := by decide +kernel
theorem dX9_coining_127 : decode cX9_coining 127 = .ok (.ldc2_w 270, 3) := by decide +kernel
theorem dX9_coining_130 : decode cX9_coining 130 = .ok (.invokevirtual 330, 3) := by decide +kernel
theorem dX9_coining_133 : decode cX9_coining 133 = .ok (.istore_n 2, 1) := by decide +kernel
theorem dX9_coining_134 : decode cX9_coining 134 = .ok (.iload_n 2, 1) := by decide +kernel
theorem dX9_coining_135 : decode cX9_coining 135 = .ok (.ifCond .eq 7, 3) := by decide +kernel
theorem dX9_coining_138 : decode cX9_coining 138 = .ok (.aload_n 0, 1) := by decide +kernel
theorem dX9_coining_139 : decode cX9_coining 139 = .ok (.invokevirtual 257, 3) := by decide +kernel
theorem dX9_coining_142 : decode cX9_coining 142 = .ok (.iload_n 2, 1) := by decide +kernel
theorem dX9_coining_143 : decode cX9_coining 143 = .ok (.ifCond .eq 100, 3) := by decide +kernel
theorem dX9_coining_146 : decode cX9_coining 146 = .ok (.aload_n 0, 1) := by decide +kernel
theorem dX9_coining_147 : decode cX9_coining 147 = .ok (.iconst 0, 1) := by decide +kernel
theorem dX9_coining_148 : decode cX9_coining 148 = .ok (.invokevirtual 352, 3) := by decide +kernel
theorem dX9_coining_151 : decode cX9_coining 151 = .ok (.istore_n 3, 1) := by decide +kernel
theorem dX9_coining_152 : decode cX9_coining 152 = .ok (.aload_n 0, 1) := by decide +kernel
theorem dX9_coining_153 : decode cX9_coining 153 = .ok (.getfield 36, 3) := by decide +kernel
theorem dX9_coining_156 : decode cX9_coining 156 = .ok (.ifCond .ne 25, 3) := by decide +kernel
theorem dX9_coining_159 : decode cX9_coining 159 = .ok (.aload_n 0, 1) := by decide +kernel
theorem dX9_coining_160 : decode cX9_coining 160 = .ok (.getfield 69, 3) := by decide +kernel
theorem dX9_coining_163 : decode cX9_coining 163 = .ok (.iload_n 1, 1) := by decide +kernel
theorem dX9_coining_164 : decode cX9_coining 164 = .ok (.iaload, 1) := by decide +kernel
theorem dX9_coining_165 : decode cX9_coining 165 = .ok (.iload_n 3, 1) := by decide +kernel
theorem dX9_coining_166 : decode cX9_coining 166 = .ok (.invokestatic 373, 3) := by decide +kernel
theorem dX9_coining_169 : decode cX9_coining 169 = .ok (.ifCond .eq 12, 3) := by decide +kernel
theorem dX9_coining_172 : decode cX9_coining 172 = .ok (.aload_n 0, 1) := by decide +kernel
theorem dX9_coining_173 : decode cX9_coining 173 = .ok (.iconst 3, 1) := by decide +kernel
theorem dX9_coining_174 : decode cX9_coining 174 = .ok (.aload_n 0, 1) := by decide +kernel
theorem dX9_coining_175 : decode cX9_coining 175 = .ok (.getfield 23, 3) := by decide +kernel
theorem dX9_coining_178 : decode cX9_coining 178 = .ok (.invokevirtual 236, 3) := by decide +kernel
theorem dX9_coining_181 : decode cX9_coining 181 = .ok (.aload_n 0, 1) := by decide +kernel
theorem dX9_coining_182 : decode cX9_coining 182 = .ok (.getfield 36, 3) := by decide +kernel
theorem dX9_coining_185 : decode cX9_coining 185 = .ok (.ifCond .ne 19, 3) := by decide +kernel
theorem dX9_coining_188 : decode cX9_coining 188 = .ok (.aload_n 0, 1) := by decide +kernel
theorem dX9_coining_189 : decode cX9_coining 189 = .ok (.getfield 69, 3) := by decide +kernel
theorem dX9_coining_192 : decode cX9_coining 192 = .ok (.iload_n 1, 1) := by decide +kernel
theorem dX9_coining_193 : decode cX9_coining 193 = .ok (.dup2, 1) := by decide +kernel
theorem dX9_coining_194 : decode cX9_coining 194 = .ok (.iaload, 1) := by decide +kernel
theorem dX9_coining_195 : decode cX9_coining 195 = .ok (.iconst 1, 1) := by decide +kernel
theorem dX9_coining_196 : decode cX9_coining 196 = .ok (.iload_n 3, 1) := by decide +kernel
theorem dX9_coining_197 : decode cX9_coining 197 = .ok (.ishl, 1) := by decide +kernel
theorem dX9_coining_198 : decode cX9_coining 198 = .ok (.ior, 1) := by decide +kernel
theorem dX9_coining_199 : decode cX9_coining 199 = .ok (.iastore, 1) := by decide +kernel
theorem dX9_coining_200 : decode cX9_coining 200 = .ok (.aload_n 0, 1) := by decide +kernel
theorem dX9_coining_201 : decode cX9_coining 201 = .ok (.invokevirtual 257, 3) := by decide +kernel
theorem dX9_coining_204 : decode cX9_coining 204 = .ok (.aload_n 0, 1) := by decide +kernel
theorem dX9_coining_205 : decode cX9_coining 205 = .ok (.invokevirtual 251, 3) := by decide +kernel
theorem dX9_coining_208 : decode cX9_coining 208 = .ok (.aload_n 0, 1) := by decide +kernel
theorem dX9_coining_209 : decode cX9_coining 209 = .ok (.getfield 36, 3) := by decide +kernel
theorem dX9_coining_212 : decode cX9_coining 212 = .ok (.ifCond .ne 26, 3) := by decide +kernel
theorem dX9_coining_215 : decode cX9_coining 215 = .ok (.aload_n 0, 1) := by decide +kernel
theorem dX9_coining_216 : decode cX9_coining 216 = .ok (.getfield 20, 3) := by decide +kernel
theorem dX9_coining_219 : decode cX9_coining 219 = .ok (.iconst 1, 1) := by decide +kernel
theorem dX9_coining_220 : decode cX9_coining 220 = .ok (.if_icmp .ne 18, 3) := by decide +kernel
theorem dX9_coining_223 : decode cX9_coining 223 = .ok (.aload_n 0, 1) := by decide +kernel
theorem dX9_coining_224 : decode cX9_coining 224 = .ok (.aload_n 0, 1) := by decide +kernel
theorem dX9_coining_225 : decode cX9_coining 225 = .ok (.getfield 32, 3) := by decide +kernel
theorem dX9_coining_228 : decode cX9_coining 228 = .ok (.invokevirtual 247, 3) := by decide +kernel
theorem dX9_coining_231 : decode cX9_coining 231 = .ok (.ifCond .ne 7, 3) := by decide +kernel
theorem dX9_coining_234 : decode cX9_coining 234 = .ok (.iconst 1, 1) := by decide +kernel
theorem dX9_coining_235 : decode cX9_coining 235 = .ok (.goto 4, 3) := by decide +kernel
theorem dX9_coining_238 : decode cX9_coining 238 = .ok (.iconst 0, 1) := by decide +kernel
theorem dX9_coining_239 : decode cX9_coining 239 = .ok (.istore_n 2, 1) := by decide +kernel
theorem dX9_coining_240 : decode cX9_coining 240 = .ok (.goto (-98), 3) := by decide +kernel
theorem dX9_coining_243 : decode cX9_coining 243 = .ok (.aload_n 0, 1) := by decide +kernel
theorem dX9_coining_244 : decode cX9_coining 244 = .ok (.getfield 36, 3) := by decide +kernel
theorem dX9_coining_247 : decode cX9_coining 247 = .ok (.ifCond .ne 16, 3) := by decide +kernel
theorem dX9_coining_250 : decode cX9_coining 250 = .ok (.aload_n 0, 1) := by decide +kernel
theorem dX9_coining_251 : decode cX9_coining 251 = .ok (.getfield 60, 3) := by decide +kernel
theorem dX9_coining_254 : decode cX9_coining 254 = .ok (.aload_n 0, 1) := by decide +kernel
theorem dX9_coining_255 : decode cX9_coining 255 = .ok (.getfield 121, 3) := by decide +kernel
theorem dX9_coining_258 : decode cX9_coining 258 = .ok (.dup2, 1) := by decide +kernel
theorem dX9_coining_259 : decode cX9_coining 259 = .ok (.iaload, 1) := by decide +kernel
theorem dX9_coining_260 : decode cX9_coining 260 = .ok (.iconst 1, 1) := by decide +kernel
theorem dX9_coining_261 : decode cX9_coining 261 = .ok (.iadd, 1) := by decide +kernel
theorem dX9_coining_262 : decode cX9_coining 262 = .ok (.iastore, 1) := by decide +kernel
theorem dX9_coining_263 : decode cX9_coining 263 = .ok (.return_, 1) := by decide +kernel
theorem dX9_waring_0 : decode cX9_waring 0 = .ok (.aload_n 0, 1) := by decide +kernel
theorem dX9_waring_1 : decode cX9_waring 1 = .ok (.aload_n 0, 1) := by decide +kernel
theorem dX9_waring_2 : decode cX9_waring 2 = .ok (.getfield 75, 3) := by decide +kernel
theorem dX9_waring_5 : decode cX9_waring 5 = .ok (.aload_n 0, 1) := by decide +kernel
theorem dX9_waring_6 : decode cX9_waring 6 = .ok (.getfield 121, 3) := by decide +kernel
theorem dX9_waring_9 : decode cX9_waring 9 = .ok (.iaload, 1) := by decide +kernel
theorem dX9_waring_10 : decode cX9_waring 10 = .ok (.bipush 10, 2) := by decide +kernel
theorem dX9_waring_12 : decode cX9_waring 12 = .ok (.if_icmp .ne 7, 3) := by decide +kernel
theorem dX9_waring_15 : decode cX9_waring 15 = .ok (.iconst 1, 1) := by decide +kernel
theorem dX9_waring_16 : decode cX9_waring 16 = .ok (.goto 4, 3) := by decide +kernel
theorem dX9_waring_19 : decode cX9_waring 19 = .ok (.iconst 0, 1) := by decide +kernel
theorem dX9_waring_20 : decode cX9_waring 20 = .ok (.invokevirtual 355, 3) := by decide +kernel
theorem dX9_waring_23 : decode cX9_waring 23 = .ok (.ifCond .ne 4, 3) := by decide +kernel
theorem dX9_waring_26 : decode cX9_waring 26 = .ok (.return_, 1) := by decide +kernel
theorem dX9_waring_27 : decode cX9_waring 27 = .ok (.bipush 10, 2) := by decide +kernel
theorem dX9_waring_29 : decode cX9_waring 29 = .ok (.aload_n 0, 1) := by decide +kernel
theorem dX9_waring_30 : decode cX9_waring 30 = .ok (.getfield 121, 3) := by decide +kernel
theorem dX9_waring_33 : decode cX9_waring 33 = .ok (.imul, 1) := by decide +kernel
theorem dX9_waring_34 : decode cX9_waring 34 = .ok (.aload_n 0, 1) := by decide +kernel
theorem dX9_waring_35 : decode cX9_waring 35 = .ok (.getfield 75, 3) := by decide +kernel
theorem dX9_waring_38 : decode cX9_waring 38 = .ok (.aload_n 0, 1) := by decide +kernel
theorem dX9_waring_39 : decode cX9_waring 39 = .ok (.getfield 121, 3) := by decide +kernel
theorem dX9_waring_42 : decode cX9_waring 42 = .ok (.iaload, 1) := by decide +kernel
theorem dX9_waring_43 : decode cX9_waring 43 = .ok (.iadd, 1) := by decide +kernel
theorem dX9_waring_44 : decode cX9_waring 44 = .ok (.istore_n 1, 1) := by decide +kernel
theorem dX9_waring_45 : decode cX9_waring 45 = .ok (.aload_n 0, 1) := by decide +kernel
theorem dX9_waring_46 : decode cX9_waring 46 = .ok (.getfield 115, 3) := by decide +kernel
theorem dX9_waring_49 : decode cX9_waring 49 = .ok (.iload_n 1, 1) := by decide +kernel
theorem dX9_waring_50 : decode cX9_waring 50 = .ok (.aload_n 0, 1) := by decide +kernel
theorem dX9_waring_51 : decode cX9_waring 51 = .ok (.invokevirtual 359, 3) := by decide +kernel
theorem dX9_waring_54 : decode cX9_waring 54 = .ok (.lastore, 1) := by decide +kernel
theorem dX9_waring_55 : decode cX9_waring 55 = .ok (.aload_n 0, 1) := by decide +kernel
theorem dX9_waring_56 : decode cX9_waring 56 = .ok (.ldc2_w 266, 3) := by decide +kernel
theorem dX9_waring_59 : decode cX9_waring 59 = .ok (.invokevirtual 363, 3) := by decide +kernel
theorem dX9_waring_62 : decode cX9_waring 62 = .ok (.aload_n 0, 1) := by decide +kernel
theorem dX9_waring_63 : decode cX9_waring 63 = .ok (.getfield 78, 3) := by decide +kernel
theorem dX9_waring_66 : decode cX9_waring 66 = .ok (.iload_n 1, 1) := by decide +kernel
theorem dX9_waring_67 : decode cX9_waring 67 = .ok (.aload_n 0, 1) := by decide +kernel
theorem dX9_waring_68 : decode cX9_waring 68 = .ok (.iconst 0, 1) := by decide +kernel
theorem dX9_waring_69 : decode cX9_waring 69 = .ok (.bipush 99, 2) := by decide +kernel
theorem dX9_waring_71 : decode cX9_waring 71 = .ok (.invokevirtual 367, 3) := by decide +kernel
theorem dX9_waring_74 : decode cX9_waring 74 = .ok (.iastore, 1) := by decide +kernel
theorem dX9_waring_75 : decode cX9_waring 75 = .ok (.aload_n 0, 1) := by decide +kernel
theorem dX9_waring_76 : decode cX9_waring 76 = .ok (.ldc2_w 274, 3) := by decide +kernel
theorem dX9_waring_79 : decode cX9_waring 79 = .ok (.invokevirtual 363, 3) := by decide +kernel
theorem dX9_waring_82 : decode cX9_waring 82 = .ok (.aload_n 0, 1) := by decide +kernel
theorem dX9_waring_83 : decode cX9_waring 83 = .ok (.getfield 81, 3) := by decide +kernel
theorem dX9_waring_86 : decode cX9_waring 86 = .ok (.iload_n 1, 1) := by decide +kernel
theorem dX9_waring_87 : decode cX9_waring 87 = .ok (.aload_n 0, 1) := by decide +kernel
theorem dX9_waring_88 : decode cX9_waring 88 = .ok (.iconst 0, 1) := by decide +kernel
theorem dX9_waring_89 : decode cX9_waring 89 = .ok (.invokevirtual 370, 3) := by decide +kernel
theorem dX9_waring_92 : decode cX9_waring 92 = .ok (.iastore, 1) := by decide +kernel
theorem dX9_waring_93 : decode cX9_waring 93 = .ok (.aload_n 0, 1) := by decide +kernel
theorem dX9_waring_94 : decode cX9_waring 94 = .ok (.getfield 36, 3) := by decide +kernel
theorem dX9_waring_97 : decode cX9_waring 97 = .ok (.ifCond .ne 16, 3) := by decide +kernel
theorem dX9_waring_100 : decode cX9_waring 100 = .ok (.aload_n 0, 1) := by decide +kernel
theorem dX9_waring_101 : decode cX9_waring 101 = .ok (.getfield 75, 3) := by decide +kernel
theorem dX9_waring_104 : decode cX9_waring 104 = .ok (.aload_n 0, 1) := by decide +kernel
theorem dX9_waring_105 : decode cX9_waring 105 = .ok (.getfield 121, 3) := by decide +kernel
theorem dX9_waring_108 : decode cX9_waring 108 = .ok (.dup2, 1) := by decide +kernel
theorem dX9_waring_109 : decode cX9_waring 109 = .ok (.iaload, 1) := by decide +kernel
theorem dX9_waring_110 : decode cX9_waring 110 = .ok (.iconst 1, 1) := by decide +kernel
theorem dX9_waring_111 : decode cX9_waring 111 = .ok (.iadd, 1) := by decide +kernel
theorem dX9_waring_112 : decode cX9_waring 112 = .ok (.iastore, 1) := by decide +kernel
theorem dX9_waring_113 : decode cX9_waring 113 = .ok (.return_, 1) := by decide +kernel
theorem dX9_snubbing_0 : decode cX9_snubbing 0 = .ok (.aload_n 0, 1) := by decide +kernel
theorem dX9_snubbing_1 : decode cX9_snubbing 1 = .ok (.iconst 0, 1) := by decide +kernel
theorem dX9_snubbing_2 : decode cX9_snubbing 2 = .ok (.invokevirtual 355, 3) := by decide +kernel
theorem dX9_snubbing_5 : decode cX9_snubbing 5 = .ok (.ifCond .ne 4, 3) := by decide +kernel
theorem dX9_snubbing_8 : decode cX9_snubbing 8 = .ok (.return_, 1) := by decide +kernel
theorem dX9_snubbing_9 : decode cX9_snubbing 9 = .ok (.bipush 12, 2) := by decide +kernel
theorem dX9_snubbing_11 : decode cX9_snubbing 11 = .ok (.aload_n 0, 1) := by decide +kernel
theorem dX9_snubbing_12 : decode cX9_snubbing 12 = .ok (.getfield 121, 3) := by decide +kernel
theorem dX9_snubbing_15 : decode cX9_snubbing 15 = .ok (.imul, 1) := by decide +kernel
theorem dX9_snubbing_16 : decode cX9_snubbing 16 = .ok (.aload_n 0, 1) := by decide +kernel
theorem dX9_snubbing_17 : decode cX9_snubbing 17 = .ok (.iconst 1, 1) := by decide +kernel
theorem dX9_snubbing_18 : decode cX9_snubbing 18 = .ok (.invokevirtual 370, 3) := by decide +kernel
theorem dX9_snubbing_21 : decode cX9_snubbing 21 = .ok (.iadd, 1) := by decide +kernel
theorem dX9_snubbing_22 : decode cX9_snubbing 22 = .ok (.istore_n 1, 1) := by decide +kernel
theorem dX9_snubbing_23 : decode cX9_snubbing 23 = .ok (.aload_n 0, 1) := by decide +kernel
theorem dX9_snubbing_24 : decode cX9_snubbing 24 = .ok (.iconst 0, 1) := by decide +kernel
theorem dX9_snubbing_25 : decode cX9_snubbing 25 = .ok (.invokevirtual 352, 3) := by decide +kernel
theorem dX9_snubbing_28 : decode cX9_snubbing 28 = .ok (.istore_n 2, 1) := by decide +kernel
theorem dX9_snubbing_29 : decode cX9_snubbing 29 = .ok (.aload_n 0, 1) := by decide +kernel
theorem dX9_snubbing_30 : decode cX9_snubbing 30 = .ok (.getfield 36, 3) := by decide +kernel
theorem dX9_snubbing_33 : decode cX9_snubbing 33 = .ok (.ifCond .ne 32, 3) := by decide +kernel
theorem dX9_snubbing_36 : decode cX9_snubbing 36 = .ok (.aload_n 0, 1) := by decide +kernel
theorem dX9_snubbing_37 : decode cX9_snubbing 37 = .ok (.getfield 69, 3) := by decide +kernel
theorem dX9_snubbing_40 : decode cX9_snubbing 40 = .ok (.iload_n 1, 1) := by decide +kernel
theorem dX9_snubbing_41 : decode cX9_snubbing 41 = .ok (.iaload, 1) := by decide +kernel
theorem dX9_snubbing_42 : decode cX9_snubbing 42 = .ok (.aload_n 0, 1) := by decide +kernel
theorem dX9_snubbing_43 : decode cX9_snubbing 43 = .ok (.getfield 72, 3) := by decide +kernel
theorem dX9_snubbing_46 : decode cX9_snubbing 46 = .ok (.iload_n 1, 1) := by decide +kernel
theorem dX9_snubbing_47 : decode cX9_snubbing 47 = .ok (.iaload, 1) := by decide +kernel
theorem dX9_snubbing_48 : decode cX9_snubbing 48 = .ok (.ior, 1) := by decide +kernel
theorem dX9_snubbing_49 : decode cX9_snubbing 49 = .ok (.iload_n 2, 1) := by decide +kernel
theorem dX9_snubbing_50 : decode cX9_snubbing 50 = .ok (.invokestatic 373, 3) := by decide +kernel
theorem dX9_snubbing_53 : decode cX9_snubbing 53 = .ok (.ifCond .eq 12, 3) := by decide +kernel
theorem dX9_snubbing_56 : decode cX9_snubbing 56 = .ok (.aload_n 0, 1) := by decide +kernel
theorem dX9_snubbing_57 : decode cX9_snubbing 57 = .ok (.iconst 3, 1) := by decide +kernel
theorem dX9_snubbing_58 : decode cX9_snubbing 58 = .ok (.aload_n 0, 1) := by decide +kernel
theorem dX9_snubbing_59 : decode cX9_snubbing 59 = .ok (.getfield 23, 3) := by decide +kernel
theorem dX9_snubbing_62 : decode cX9_snubbing 62 = .ok (.invokevirtual 236, 3) := by decide +kernel
theorem dX9_snubbing_65 : decode cX9_snubbing 65 = .ok (.aload_n 0, 1) := by decide +kernel
theorem dX9_snubbing_66 : decode cX9_snubbing 66 = .ok (.getfield 36, 3) := by decide +kernel
theorem dX9_snubbing_69 : decode cX9_snubbing 69 = .ok (.ifCond .le 4, 3) := by decide +kernel
theorem dX9_snubbing_72 : decode cX9_snubbing 72 = .ok (.return_, 1) := by decide +kernel
theorem dX9_snubbing_73 : decode cX9_snubbing 73 = .ok (.aload_n 0, 1) := by decide +kernel
theorem dX9_snubbing_74 : decode cX9_snubbing 74 = .ok (.invokevirtual 257, 3) := by decide +kernel
theorem dX9_snubbing_77 : decode cX9_snubbing 77 = .ok (.aload_n 0, 1) := by decide +kernel
theorem dX9_snubbing_78 : decode cX9_snubbing 78 = .ok (.getfield 72, 3) := by decide +kernel
theorem dX9_snubbing_81 : decode cX9_snubbing 81 = .ok (.iload_n 1, 1) := by decide +kernel
theorem dX9_snubbing_82 : decode cX9_snubbing 82 = .ok (.dup2, 1) := by decide +kernel
theorem dX9_snubbing_83 : decode cX9_snubbing 83 = .ok (.iaload, 1) := by decide +kernel
theorem dX9_snubbing_84 : decode cX9_snubbing 84 = .ok (.iconst 1, 1) := by decide +kernel
theorem dX9_snubbing_85 : decode cX9_snubbing 85 = .ok (.iload_n 2, 1) := by decide +kernel
theorem dX9_snubbing_86 : decode cX9_snubbing 86 = .ok (.ishl, 1) := by decide +kernel
theorem dX9_snubbing_87 : decode cX9_snubbing 87 = .ok (.ior, 1) := by decide +kernel
theorem dX9_snubbing_88 : decode cX9_snubbing 88 = .ok (.iastore, 1) := by decide +kernel
theorem dX9_snubbing_89 : decode cX9_snubbing 89 = .ok (.return_, 1) := by decide +kernel
theorem dX9_telling_0 : decode cX9_telling 0 = .ok (.aload_n 0, 1) := by decide +kernel
theorem dX9_telling_1 : decode cX9_telling 1 = .ok (.iconst 0, 1) := by decide +kernel
theorem dX9_telling_2 : decode cX9_telling 2 = .ok (.invokevirtual 355, 3) := by decide +kernel
theorem dX9_telling_5 : decode cX9_telling 5 = .ok (.ifCond .ne 4, 3) := by decide +kernel
theorem dX9_telling_8 : decode cX9_telling 8 = .ok (.return_, 1) := by decide +kernel
theorem dX9_telling_9 : decode cX9_telling 9 = .ok (.aload_n 0, 1) := by decide +kernel
theorem dX9_telling_10 : decode cX9_telling 10 = .ok (.iconst 0, 1) := by decide +kernel
theorem dX9_telling_11 : decode cX9_telling 11 = .ok (.iload_n 1, 1) := by decide +kernel
theorem dX9_telling_12 : decode cX9_telling 12 = .ok (.ifCond .eq 8, 3) := by decide +kernel
theorem dX9_telling_15 : decode cX9_telling 15 = .ok (.bipush 99, 2) := by decide +kernel
theorem dX9_telling_17 : decode cX9_telling 17 = .ok (.goto 5, 3) := by decide +kernel
theorem dX9_telling_20 : decode cX9_telling 20 = .ok (.bipush 100, 2) := by decide +kernel
theorem dX9_telling_22 : decode cX9_telling 22 = .ok (.invokevirtual 367, 3) := by decide +kernel
theorem dX9_telling_25 : decode cX9_telling 25 = .ok (.istore_n 2, 1) := by decide +kernel
theorem dX9_telling_26 : decode cX9_telling 26 = .ok (.aload_n 0, 1) := by decide +kernel
theorem dX9_telling_27 : decode cX9_telling 27 = .ok (.getfield 36, 3) := by decide +kernel
theorem dX9_telling_30 : decode cX9_telling 30 = .ok (.ifCond .le 4, 3) := by decide +kernel
theorem dX9_telling_33 : decode cX9_telling 33 = .ok (.return_, 1) := by decide +kernel
theorem dX9_telling_34 : decode cX9_telling 34 = .ok (.iload_n 1, 1) := by decide +kernel
theorem dX9_telling_35 : decode cX9_telling 35 = .ok (.ifCond .eq 16, 3) := by decide +kernel
theorem dX9_telling_38 : decode cX9_telling 38 = .ok (.aload_n 0, 1) := by decide +kernel
theorem dX9_telling_39 : decode cX9_telling 39 = .ok (.getfield 84, 3) := by decide +kernel
theorem dX9_telling_42 : decode cX9_telling 42 = .ok (.aload_n 0, 1) := by decide +kernel
theorem dX9_telling_43 : decode cX9_telling 43 = .ok (.getfield 121, 3) := by decide +kernel
theorem dX9_telling_46 : decode cX9_telling 46 = .ok (.iload_n 2, 1) := by decide +kernel
theorem dX9_telling_47 : decode cX9_telling 47 = .ok (.iastore, 1) := by decide +kernel
theorem dX9_telling_48 : decode cX9_telling 48 = .ok (.goto 13, 3) := by decide +kernel
theorem dX9_telling_51 : decode cX9_telling 51 = .ok (.aload_n 0, 1) := by decide +kernel
theorem dX9_telling_52 : decode cX9_telling 52 = .ok (.getfield 87, 3) := by decide +kernel
theorem dX9_telling_55 : decode cX9_telling 55 = .ok (.aload_n 0, 1) := by decide +kernel
theorem dX9_telling_56 : decode cX9_telling 56 = .ok (.getfield 121, 3) := by decide +kernel
theorem dX9_telling_59 : decode cX9_telling 59 = .ok (.iload_n 2, 1) := by decide +kernel
theorem dX9_telling_60 : decode cX9_telling 60 = .ok (.iastore, 1) := by decide +kernel
theorem dX9_telling_61 : decode cX9_telling 61 = .ok (.return_, 1) := by decide +kernel
theorem dX9_presenting_0 : decode cX9_presenting 0 = .ok (.aload_n 0, 1) := by decide +kernel
theorem dX9_presenting_1 : decode cX9_presenting 1 = .ok (.aload_n 0, 1) := by decide +kernel
theorem dX9_presenting_2 : decode cX9_presenting 2 = .ok (.getfield 90, 3) := by decide +kernel
theorem dX9_presenting_5 : decode cX9_presenting 5 = .ok (.aload_n 0, 1) := by decide +kernel
theorem dX9_presenting_6 : decode cX9_presenting 6 = .ok (.getfield 121, 3) := by decide +kernel
theorem dX9_presenting_9 : decode cX9_presenting 9 = .ok (.iaload, 1) := by decide +kernel
theorem dX9_presenting_10 : decode cX9_presenting 10 = .ok (.iconst (-1), 1) := by decide +kernel
theorem dX9_presenting_11 : decode cX9_presenting 11 = .ok (.if_icmp .eq 7, 3) := by decide +kernel
theorem dX9_presenting_14 : decode cX9_presenting 14 = .ok (.iconst 1, 1) := by decide +kernel
theorem dX9_presenting_15 : decode cX9_presenting 15 = .ok (.goto 4, 3) := by decide +kernel
theorem dX9_presenting_18 : decode cX9_presenting 18 = .ok (.iconst 0, 1) := by decide +kernel
theorem dX9_presenting_19 : decode cX9_presenting 19 = .ok (.invokevirtual 355, 3) := by decide +kernel
theorem dX9_presenting_22 : decode cX9_presenting 22 = .ok (.ifCond .ne 4, 3) := by decide +kernel
theorem dX9_presenting_25 : decode cX9_presenting 25 = .ok (.return_, 1) := by decide +kernel
theorem dX9_presenting_26 : decode cX9_presenting 26 = .ok (.aload_n 0, 1) := by decide +kernel
theorem dX9_presenting_27 : decode cX9_presenting 27 = .ok (.getfield 90, 3) := by decide +kernel
theorem dX9_presenting_30 : decode cX9_presenting 30 = .ok (.aload_n 0, 1) := by decide +kernel
theorem dX9_presenting_31 : decode cX9_presenting 31 = .ok (.getfield 121, 3) := by decide +kernel
theorem dX9_presenting_34 : decode cX9_presenting 34 = .ok (.aload_n 0, 1) := by decide +kernel
theorem dX9_presenting_35 : decode cX9_presenting 35 = .ok (.getfield 118, 3) := by decide +kernel
theorem dX9_presenting_38 : decode cX9_presenting 38 = .ok (.iastore, 1) := by decide +kernel
theorem dX9_presenting_39 : decode cX9_presenting 39 = .ok (.aload_n 0, 1) := by decide +kernel
theorem dX9_presenting_40 : decode cX9_presenting 40 = .ok (.iconst 1, 1) := by decide +kernel
theorem dX9_presenting_41 : decode cX9_presenting 41 = .ok (.invokevirtual 377, 3) := by decide +kernel
theorem dX9_presenting_44 : decode cX9_presenting 44 = .ok (.aload_n 0, 1) := by decide +kernel
theorem dX9_presenting_45 : decode cX9_presenting 45 = .ok (.getfield 93, 3) := by decide +kernel
theorem dX9_presenting_48 : decode cX9_presenting 48 = .ok (.aload_n 0, 1) := by decide +kernel
theorem dX9_presenting_49 : decode cX9_presenting 49 = .ok (.getfield 121, 3) := by decide +kernel
theorem dX9_presenting_52 : decode cX9_presenting 52 = .ok (.aload_n 0, 1) := by decide +kernel
theorem dX9_presenting_53 : decode cX9_presenting 53 = .ok (.getfield 118, 3) := by decide +kernel
theorem dX9_presenting_56 : decode cX9_presenting 56 = .ok (.iastore, 1) := by decide +kernel
theorem dX9_presenting_57 : decode cX9_presenting 57 = .ok (.return_, 1) := by decide +kernel
theorem dX9_pricing_0 : decode cX9_pricing 0 = .ok (.aload_n 0, 1) := by decide +kernel
theorem dX9_pricing_1 : decode cX9_pricing 1 = .ok (.aload_n 0, 1) := by decide +kernel
theorem dX9_pricing_2 : decode cX9_pricing 2 = .ok (.getfield 96, 3) := by decide +kernel
theorem dX9_pricing_5 : decode cX9_pricing 5 = .ok (.aload_n 0, 1) := by decide +kernel
theorem dX9_pricing_6 : decode cX9_pricing 6 = .ok (.getfield 121, 3) := by decide +kernel
theorem dX9_pricing_9 : decode cX9_pricing 9 = .ok (.iaload, 1) := by decide +kernel
theorem dX9_pricing_10 : decode cX9_pricing 10 = .ok (.iconst (-1), 1) := by decide +kernel
theorem dX9_pricing_11 : decode cX9_pricing 11 = .ok (.if_icmp .eq 7, 3) := by decide +kernel
theorem dX9_pricing_14 : decode cX9_pricing 14 = .ok (.iconst 1, 1) := by decide +kernel
theorem dX9_pricing_15 : decode cX9_pricing 15 = .ok (.goto 4, 3) := by decide +kernel
theorem dX9_pricing_18 : decode cX9_pricing 18 = .ok (.iconst 0, 1) := by decide +kernel
theorem dX9_pricing_19 : decode cX9_pricing 19 = .ok (.invokevirtual 355, 3) := by decide +kernel
theorem dX9_pricing_22 : decode cX9_pricing 22 = .ok (.ifCond .ne 4, 3) := by decide +kernel
theorem dX9_pricing_25 : decode cX9_pricing 25 = .ok (.return_, 1) := by decide +kernel
theorem dX9_pricing_26 : decode cX9_pricing 26 = .ok (.aload_n 0, 1) := by decide +kernel
theorem dX9_pricing_27 : decode cX9_pricing 27 = .ok (.getfield 96, 3) := by decide +kernel
theorem dX9_pricing_30 : decode cX9_pricing 30 = .ok (.aload_n 0, 1) := by decide +kernel
theorem dX9_pricing_31 : decode cX9_pricing 31 = .ok (.getfield 121, 3) := by decide +kernel
theorem dX9_pricing_34 : decode cX9_pricing 34 = .ok (.aload_n 0, 1) := by decide +kernel
theorem dX9_pricing_35 : decode cX9_pricing 35 = .ok (.getfield 118, 3) := by decide +kernel
theorem dX9_pricing_38 : decode cX9_pricing 38 = .ok (.iastore, 1) := by decide +kernel
theorem dX9_pricing_39 : decode cX9_pricing 39 = .ok (.aload_n 0, 1) := by decide +kernel
theorem dX9_pricing_40 : decode cX9_pricing 40 = .ok (.iconst 0, 1) := by decide +kernel
theorem dX9_pricing_41 : decode cX9_pricing 41 = .ok (.invokevirtual 377, 3) := by decide +kernel
theorem dX9_pricing_44 : decode cX9_pricing 44 = .ok (.aload_n 0, 1) := by decide +kernel
theorem dX9_pricing_45 : decode cX9_pricing 45 = .ok (.getfield 99, 3) := by decide +kernel
theorem dX9_pricing_48 : decode cX9_pricing 48 = .ok (.aload_n 0, 1) := by decide +kernel
theorem dX9_pricing_49 : decode cX9_pricing 49 = .ok (.getfield 121, 3) := by decide +kernel
theorem dX9_pricing_52 : decode cX9_pricing 52 = .ok (.aload_n 0, 1) := by decide +kernel
theorem dX9_pricing_53 : decode cX9_pricing 53 = .ok (.getfield 118, 3) := by decide +kernel
theorem dX9_pricing_56 : decode cX9_pricing 56 = .ok (.iastore, 1) := by decide +kernel
theorem dX9_pricing_57 : decode cX9_pricing 57 = .ok (.return_, 1) := by decide +kernel
theorem dX9_statement_0 : decode cX9_statement 0 = .ok (.aload_n 0, 1) := by decide +kernel
theorem dX9_statement_1 : decode cX9_statement 1 = .ok (.invokevirtual 251, 3) := by decide +kernel
theorem dX9_statement_4 : decode cX9_statement 4 = .ok (.aload_n 0, 1) := by decide +kernel
theorem dX9_statement_5 : decode cX9_statement 5 = .ok (.getfield 36, 3) := by decide +kernel
theorem dX9_statement_8 : decode cX9_statement 8 = .ok (.ifCond .le 4, 3) := by decide +kernel
theorem dX9_statement_11 : decode cX9_statement 11 = .ok (.return_, 1) := by decide +kernel
theorem dX9_statement_12 : decode cX9_statement 12 = .ok (.aload_n 0, 1) := by decide +kernel
theorem dX9_statement_13 : decode cX9_statement 13 = .ok (.ldc2_w 260, 3) := by decide +kernel
theorem dX9_statement_16 : decode cX9_statement 16 = .ok (.invokevirtual 330, 3) := by decide +kernel
theorem dX9_statement_19 : decode cX9_statement 19 = .ok (.ifCond .eq 10, 3) := by decide +kernel
theorem dX9_statement_22 : decode cX9_statement 22 = .ok (.aload_n 0, 1) := by decide +kernel
theorem dX9_statement_23 : decode cX9_statement 23 = .ok (.invokevirtual 381, 3) := by decide +kernel
theorem dX9_statement_26 : decode cX9_statement 26 = .ok (.goto 133, 3) := by decide +kernel
theorem dX9_statement_29 : decode cX9_statement 29 = .ok (.aload_n 0, 1) := by decide +kernel
theorem dX9_statement_30 : decode cX9_statement 30 = .ok (.ldc2_w 264, 3) := by decide +kernel
theorem dX9_statement_33 : decode cX9_statement 33 = .ok (.invokevirtual 330, 3) := by decide +kernel
theorem dX9_statement_36 : decode cX9_statement 36 = .ok (.ifCond .eq 10, 3) := by decide +kernel
theorem dX9_statement_39 : decode cX9_statement 39 = .ok (.aload_n 0, 1) := by decide +kernel
theorem dX9_statement_40 : decode cX9_statement 40 = .ok (.invokevirtual 384, 3) := by decide +kernel
theorem dX9_statement_43 : decode cX9_statement 43 = .ok (.goto 116, 3) := by decide +kernel
theorem dX9_statement_46 : decode cX9_statement 46 = .ok (.aload_n 0, 1) := by decide +kernel
theorem dX9_statement_47 : decode cX9_statement 47 = .ok (.ldc2_w 272, 3) := by decide +kernel
theorem dX9_statement_50 : decode cX9_statement 50 = .ok (.invokevirtual 330, 3) := by decide +kernel
theorem dX9_statement_53 : decode cX9_statement 53 = .ok (.ifCond .eq 10, 3) := by decide +kernel
theorem dX9_statement_56 : decode cX9_statement 56 = .ok (.aload_n 0, 1) := by decide +kernel
theorem dX9_statement_57 : decode cX9_statement 57 = .ok (.invokevirtual 387, 3) := by decide +kernel
theorem dX9_statement_60 : decode cX9_statement 60 = .ok (.goto 99, 3) := by decide +kernel
theorem dX9_statement_63 : decode cX9_statement 63 = .ok (.aload_n 0, 1) := by decide +kernel
theorem dX9_statement_64 : decode cX9_statement 64 = .ok (.ldc2_w 276, 3) := by decide +kernel
theorem dX9_statement_67 : decode cX9_statement 67 = .ok (.invokevirtual 330, 3) := by decide +kernel
theorem dX9_statement_70 : decode cX9_statement 70 = .ok (.ifCond .eq 10, 3) := by decide +kernel
theorem dX9_statement_73 : decode cX9_statement 73 = .ok (.aload_n 0, 1) := by decide +kernel
theorem dX9_statement_74 : decode cX9_statement 74 = .ok (.invokevirtual 390, 3) := by decide +kernel
theorem dX9_statement_77 : decode cX9_statement 77 = .ok (.goto 82, 3) := by decide +kernel
theorem dX9_statement_80 : decode cX9_statement 80 = .ok (.aload_n 0, 1) := by decide +kernel
theorem dX9_statement_81 : decode cX9_statement 81 = .ok (.ldc2_w 278, 3) := by decide +kernel
theorem dX9_statement_84 : decode cX9_statement 84 = .ok (.invokevirtual 330, 3) := by decide +kernel
theorem dX9_statement_87 : decode cX9_statement 87 = .ok (.ifCond .eq 11, 3) := by decide +kernel
theorem dX9_statement_90 : decode cX9_statement 90 = .ok (.aload_n 0, 1) := by decide +kernel
theorem dX9_statement_91 : decode cX9_statement 91 = .ok (.iconst 1, 1) := by decide +kernel
theorem dX9_statement_92 : decode cX9_statement 92 = .ok (.invokevirtual 393, 3) := by decide +kernel
theorem dX9_statement_95 : decode cX9_statement 95 = .ok (.goto 64, 3) := by decide +kernel
theorem dX9_statement_98 : decode cX9_statement 98 = .ok (.aload_n 0, 1) := by decide +kernel
theorem dX9_statement_99 : decode cX9_statement 99 = .ok (.ldc2_w 280, 3) := by decide +kernel
theorem dX9_statement_102 : decode cX9_statement 102 = .ok (.invokevirtual 330, 3) := by decide +kernel
theorem dX9_statement_105 : decode cX9_statement 105 = .ok (.ifCond .eq 11, 3) := by decide +kernel
theorem dX9_statement_108 : decode cX9_statement 108 = .ok (.aload_n 0, 1) := by decide +kernel
theorem dX9_statement_109 : decode cX9_statement 109 = .ok (.iconst 0, 1) := by decide +kernel
theorem dX9_statement_110 : decode cX9_statement 110 = .ok (.invokevirtual 393, 3) := by decide +kernel
theorem dX9_statement_113 : decode cX9_statement 113 = .ok (.goto 46, 3) := by decide +kernel
theorem dX9_statement_116 : decode cX9_statement 116 = .ok (.aload_n 0, 1) := by decide +kernel
theorem dX9_statement_117 : decode cX9_statement 117 = .ok (.ldc2_w 282, 3) := by decide +kernel
theorem dX9_statement_120 : decode cX9_statement 120 = .ok (.invokevirtual 330, 3) := by decide +kernel
theorem dX9_statement_123 : decode cX9_statement 123 = .ok (.ifCond .eq 10, 3) := by decide +kernel
theorem dX9_statement_126 : decode cX9_statement 126 = .ok (.aload_n 0, 1) := by decide +kernel
theorem dX9_statement_127 : decode cX9_statement 127 = .ok (.invokevirtual 396, 3) := by decide +kernel
theorem dX9_statement_130 : decode cX9_statement 130 = .ok (.goto 29, 3) := by decide +kernel
theorem dX9_statement_133 : decode cX9_statement 133 = .ok (.aload_n 0, 1) := by decide +kernel
theorem dX9_statement_134 : decode cX9_statement 134 = .ok (.ldc2_w 284, 3) := by decide +kernel
theorem dX9_statement_137 : decode cX9_statement 137 = .ok (.invokevirtual 330, 3) := by decide +kernel
theorem dX9_statement_140 : decode cX9_statement 140 = .ok (.ifCond .eq 10, 3) := by decide +kernel
theorem dX9_statement_143 : decode cX9_statement 143 = .ok (.aload_n 0, 1) := by decide +kernel
theorem dX9_statement_144 : decode cX9_statement 144 = .ok (.invokevirtual 399, 3) := by decide +kernel
theorem dX9_statement_147 : decode cX9_statement 147 = .ok (.goto 12, 3) := by decide +kernel
theorem dX9_statement_150 : decode cX9_statement 150 = .ok (.aload_n 0, 1) := by decide +kernel
theorem dX9_statement_151 : decode cX9_statement 151 = .ok (.iconst 1, 1) := by decide +kernel
theorem dX9_statement_152 : decode cX9_statement 152 = .ok (.aload_n 0, 1) := by decide +kernel
theorem dX9_statement_153 : decode cX9_statement 153 = .ok (.getfield 23, 3) := by decide +kernel
theorem dX9_statement_156 : decode cX9_statement 156 = .ok (.invokevirtual 236, 3) := by decide +kernel
theorem dX9_statement_159 : decode cX9_statement 159 = .ok (.return_, 1) := by decide +kernel
theorem dX9_finishes_0 : decode cX9_finishes 0 = .ok (.aload_n 0, 1) := by decide +kernel
theorem dX9_finishes_1 : decode cX9_finishes 1 = .ok (.invokevirtual 251, 3) := by decide +kernel
theorem dX9_finishes_4 : decode cX9_finishes 4 = .ok (.aload_n 0, 1) := by decide +kernel
theorem dX9_finishes_5 : decode cX9_finishes 5 = .ok (.getfield 36, 3) := by decide +kernel
theorem dX9_finishes_8 : decode cX9_finishes 8 = .ok (.ifCond .le 4, 3) := by decide +kernel
theorem dX9_finishes_11 : decode cX9_finishes 11 = .ok (.return_, 1) := by decide +kernel
theorem dX9_finishes_12 : decode cX9_finishes 12 = .ok (.aload_n 0, 1) := by decide +kernel
theorem dX9_finishes_13 : decode cX9_finishes 13 = .ok (.getfield 26, 3) := by decide +kernel
theorem dX9_finishes_16 : decode cX9_finishes 16 = .ok (.istore_n 2, 1) := by decide +kernel
theorem dX9_finishes_17 : decode cX9_finishes 17 = .ok (.iload_n 2, 1) := by decide +kernel
theorem dX9_finishes_18 : decode cX9_finishes 18 = .ok (.aload_n 0, 1) := by decide +kernel
theorem dX9_finishes_19 : decode cX9_finishes 19 = .ok (.getfield 17, 3) := by decide +kernel
theorem dX9_finishes_22 : decode cX9_finishes 22 = .ok (.if_icmp .ge 31, 3) := by decide +kernel
theorem dX9_finishes_25 : decode cX9_finishes 25 = .ok (.aload_n 0, 1) := by decide +kernel
theorem dX9_finishes_26 : decode cX9_finishes 26 = .ok (.getfield 7, 3) := by decide +kernel
theorem dX9_finishes_29 : decode cX9_finishes 29 = .ok (.iload_n 2, 1) := by decide +kernel
theorem dX9_finishes_30 : decode cX9_finishes 30 = .ok (.iaload, 1) := by decide +kernel
theorem dX9_finishes_31 : decode cX9_finishes 31 = .ok (.bipush 32, 2) := by decide +kernel
theorem dX9_finishes_33 : decode cX9_finishes 33 = .ok (.if_icmp .eq 14, 3) := by decide +kernel
theorem dX9_finishes_36 : decode cX9_finishes 36 = .ok (.aload_n 0, 1) := by decide +kernel
theorem dX9_finishes_37 : decode cX9_finishes 37 = .ok (.getfield 7, 3) := by decide +kernel
theorem dX9_finishes_40 : decode cX9_finishes 40 = .ok (.iload_n 2, 1) := by decide +kernel
theorem dX9_finishes_41 : decode cX9_finishes 41 = .ok (.iaload, 1) := by decide +kernel
theorem dX9_finishes_42 : decode cX9_finishes 42 = .ok (.bipush 10, 2) := by decide +kernel
theorem dX9_finishes_44 : decode cX9_finishes 44 = .ok (.if_icmp .ne 9, 3) := by decide +kernel
theorem dX9_finishes_47 : decode cX9_finishes 47 = .ok (.iinc 2 1, 3) := by decide +kernel
theorem dX9_finishes_50 : decode cX9_finishes 50 = .ok (.goto (-33), 3) := by decide +kernel
theorem dX9_finishes_53 : decode cX9_finishes 53 = .ok (.aload_n 0, 1) := by decide +kernel
theorem dX9_finishes_54 : decode cX9_finishes 54 = .ok (.bipush 59, 2) := by decide +kernel
theorem dX9_finishes_56 : decode cX9_finishes 56 = .ok (.invokevirtual 254, 3) := by decide +kernel
theorem dX9_finishes_59 : decode cX9_finishes 59 = .ok (.ifCond .eq 24, 3) := by decide +kernel
theorem dX9_finishes_62 : decode cX9_finishes 62 = .ok (.iload_n 1, 1) := by decide +kernel
theorem dX9_finishes_63 : decode cX9_finishes 63 = .ok (.bipush 80, 2) := by decide +kernel
theorem dX9_finishes_65 : decode cX9_finishes 65 = .ok (.if_icmp .ne 18, 3) := by decide +kernel
theorem dX9_finishes_68 : decode cX9_finishes 68 = .ok (.iload_n 2, 1) := by decide +kernel
theorem dX9_finishes_69 : decode cX9_finishes 69 = .ok (.aload_n 0, 1) := by decide +kernel
theorem dX9_finishes_70 : decode cX9_finishes 70 = .ok (.getfield 17, 3) := by decide +kernel
theorem dX9_finishes_73 : decode cX9_finishes 73 = .ok (.if_icmp .ge 10, 3) := by decide +kernel
theorem dX9_finishes_76 : decode cX9_finishes 76 = .ok (.aload_n 0, 1) := by decide +kernel
theorem dX9_finishes_77 : decode cX9_finishes 77 = .ok (.bipush 6, 2) := by decide +kernel
theorem dX9_finishes_79 : decode cX9_finishes 79 = .ok (.iload_n 2, 1) := by decide +kernel
theorem dX9_finishes_80 : decode cX9_finishes 80 = .ok (.invokevirtual 236, 3) := by decide +kernel
theorem dX9_finishes_83 : decode cX9_finishes 83 = .ok (.aload_n 0, 1) := by decide +kernel
theorem dX9_finishes_84 : decode cX9_finishes 84 = .ok (.bipush 59, 2) := by decide +kernel
theorem dX9_finishes_86 : decode cX9_finishes 86 = .ok (.invokevirtual 402, 3) := by decide +kernel
theorem dX9_finishes_89 : decode cX9_finishes 89 = .ok (.return_, 1) := by decide +kernel
theorem dX9_society_0 : decode cX9_society 0 = .ok (.aload_n 0, 1) := by decide +kernel
theorem dX9_society_1 : decode cX9_society 1 = .ok (.aload_n 0, 1) := by decide +kernel
theorem dX9_society_2 : decode cX9_society 2 = .ok (.getfield 13, 3) := by decide +kernel
theorem dX9_society_5 : decode cX9_society 5 = .ok (.putfield 17, 3) := by decide +kernel
theorem dX9_society_8 : decode cX9_society 8 = .ok (.aload_n 0, 1) := by decide +kernel
theorem dX9_society_9 : decode cX9_society 9 = .ok (.iconst 0, 1) := by decide +kernel
theorem dX9_society_10 : decode cX9_society 10 = .ok (.putfield 13, 3) := by decide +kernel
theorem dX9_society_13 : decode cX9_society 13 = .ok (.aload_n 0, 1) := by decide +kernel
theorem dX9_society_14 : decode cX9_society 14 = .ok (.iconst 0, 1) := by decide +kernel
theorem dX9_society_15 : decode cX9_society 15 = .ok (.putfield 26, 3) := by decide +kernel
theorem dX9_society_18 : decode cX9_society 18 = .ok (.aload_n 0, 1) := by decide +kernel
theorem dX9_society_19 : decode cX9_society 19 = .ok (.iconst 0, 1) := by decide +kernel
theorem dX9_society_20 : decode cX9_society 20 = .ok (.putfield 36, 3) := by decide +kernel
theorem dX9_society_23 : decode cX9_society 23 = .ok (.aload_n 0, 1) := by decide +kernel
theorem dX9_society_24 : decode cX9_society 24 = .ok (.iconst (-1), 1) := by decide +kernel
theorem dX9_society_25 : decode cX9_society 25 = .ok (.putfield 39, 3) := by decide +kernel
theorem dX9_society_28 : decode cX9_society 28 = .ok (.aload_n 0, 1) := by decide +kernel
theorem dX9_society_29 : decode cX9_society 29 = .ok (.iconst 1, 1) := by decide +kernel
theorem dX9_society_30 : decode cX9_society 30 = .ok (.aload_n 0, 1) := by decide +kernel
theorem dX9_society_31 : decode cX9_society 31 = .ok (.getfield 51, 3) := by decide +kernel
theorem dX9_society_34 : decode cX9_society 34 = .ok (.isub, 1) := by decide +kernel
theorem dX9_society_35 : decode cX9_society 35 = .ok (.putfield 121, 3) := by decide +kernel
